section
-- ===== PART A: goes FIRST, ahead of the names: the tables' words, and 'selects' of the private methods out of them =====
/-- a private method of a class that the tables say can be made, by its rows of tables_1 -/
def lw_okq (q : MethodName × Nat) : Prop := (q.1.cls ≠ "java/lang/invoke/MethodHandle" ∧ q.1.cls ≠ "java/lang/invoke/VarHandle") ∧ Cond.instantiable q.1.cls q.2 ∈ tables_1 ∧ Cond.privateMethod q.1 ∈ tables_1 ∧ Cond.instanceMethod q.1 ∈ tables_1
theorem lw_p0 : lw_okq (⟨"StairManners", "refuse", "(I)I"⟩, 11) := ⟨⟨by decide +kernel, by decide +kernel⟩, List.mem_of_getElem? (i := 18) (by decide +kernel), List.mem_of_getElem? (i := 269) (by decide +kernel), List.mem_of_getElem? (i := 270) (by decide +kernel)⟩
theorem lw_p1 : lw_okq (⟨"StairManners$Text", "nextToken", "()V"⟩, 10) := ⟨⟨by decide +kernel, by decide +kernel⟩, List.mem_of_getElem? (i := 154) (by decide +kernel), List.mem_of_getElem? (i := 300) (by decide +kernel), List.mem_of_getElem? (i := 301) (by decide +kernel)⟩
theorem lw_p2 : lw_okq (⟨"StairManners$Text", "behindRun", "(III)I"⟩, 10) := ⟨⟨by decide +kernel, by decide +kernel⟩, List.mem_of_getElem? (i := 154) (by decide +kernel), List.mem_of_getElem? (i := 304) (by decide +kernel), List.mem_of_getElem? (i := 305) (by decide +kernel)⟩
theorem lw_p3 : lw_okq (⟨"StairManners$Text", "byteAt", "(I)I"⟩, 10) := ⟨⟨by decide +kernel, by decide +kernel⟩, List.mem_of_getElem? (i := 154) (by decide +kernel), List.mem_of_getElem? (i := 308) (by decide +kernel), List.mem_of_getElem? (i := 309) (by decide +kernel)⟩
theorem lw_p4 : lw_okq (⟨"StairManners$Text", "wordRead", "()I"⟩, 10) := ⟨⟨by decide +kernel, by decide +kernel⟩, List.mem_of_getElem? (i := 154) (by decide +kernel), List.mem_of_getElem? (i := 312) (by decide +kernel), List.mem_of_getElem? (i := 313) (by decide +kernel)⟩
theorem lw_p5 : lw_okq (⟨"StairManners$Text", "reads", "(Ljava/lang/String;)Z"⟩, 10) := ⟨⟨by decide +kernel, by decide +kernel⟩, List.mem_of_getElem? (i := 154) (by decide +kernel), List.mem_of_getElem? (i := 325) (by decide +kernel), List.mem_of_getElem? (i := 326) (by decide +kernel)⟩
theorem lw_p6 : lw_okq (⟨"StairManners$Text", "numberRead", "()I"⟩, 10) := ⟨⟨by decide +kernel, by decide +kernel⟩, List.mem_of_getElem? (i := 154) (by decide +kernel), List.mem_of_getElem? (i := 377) (by decide +kernel), List.mem_of_getElem? (i := 378) (by decide +kernel)⟩
theorem lw_p7 : lw_okq (⟨"StairManners$Text", "takes", "(LStairManners$House;)Z"⟩, 10) := ⟨⟨by decide +kernel, by decide +kernel⟩, List.mem_of_getElem? (i := 154) (by decide +kernel), List.mem_of_getElem? (i := 381) (by decide +kernel), List.mem_of_getElem? (i := 382) (by decide +kernel)⟩
theorem lw_p8 : lw_okq (⟨"StairManners$Text", "begins", "(LStairManners$House;)Z"⟩, 10) := ⟨⟨by decide +kernel, by decide +kernel⟩, List.mem_of_getElem? (i := 154) (by decide +kernel), List.mem_of_getElem? (i := 385) (by decide +kernel), List.mem_of_getElem? (i := 386) (by decide +kernel)⟩
theorem lw_p9 : lw_okq (⟨"StairManners$Text", "takesNumber", "(LStairManners$House;)Z"⟩, 10) := ⟨⟨by decide +kernel, by decide +kernel⟩, List.mem_of_getElem? (i := 154) (by decide +kernel), List.mem_of_getElem? (i := 392) (by decide +kernel), List.mem_of_getElem? (i := 393) (by decide +kernel)⟩
theorem lw_p10 : lw_okq (⟨"StairManners$Text", "lowest", "()I"⟩, 10) := ⟨⟨by decide +kernel, by decide +kernel⟩, List.mem_of_getElem? (i := 154) (by decide +kernel), List.mem_of_getElem? (i := 396) (by decide +kernel), List.mem_of_getElem? (i := 397) (by decide +kernel)⟩
theorem lw_p11 : lw_okq (⟨"StairManners$Text", "highest", "(I)I"⟩, 10) := ⟨⟨by decide +kernel, by decide +kernel⟩, List.mem_of_getElem? (i := 154) (by decide +kernel), List.mem_of_getElem? (i := 400) (by decide +kernel), List.mem_of_getElem? (i := 401) (by decide +kernel)⟩
theorem lw_p12 : lw_okq (⟨"StairManners$Text", "settle", "(LStairManners$House;)V"⟩, 10) := ⟨⟨by decide +kernel, by decide +kernel⟩, List.mem_of_getElem? (i := 154) (by decide +kernel), List.mem_of_getElem? (i := 404) (by decide +kernel), List.mem_of_getElem? (i := 405) (by decide +kernel)⟩
theorem lw_p13 : lw_okq (⟨"StairManners$Text", "settleKinds", "(LStairManners$Stand;)V"⟩, 10) := ⟨⟨by decide +kernel, by decide +kernel⟩, List.mem_of_getElem? (i := 154) (by decide +kernel), List.mem_of_getElem? (i := 408) (by decide +kernel), List.mem_of_getElem? (i := 409) (by decide +kernel)⟩
theorem lw_p14 : lw_okq (⟨"StairManners$House", "dropOldest", "()V"⟩, 11) := ⟨⟨by decide +kernel, by decide +kernel⟩, List.mem_of_getElem? (i := 26) (by decide +kernel), List.mem_of_getElem? (i := 470) (by decide +kernel), List.mem_of_getElem? (i := 471) (by decide +kernel)⟩
theorem lw_p15 : lw_okq (⟨"StairManners", "refusePlace", "()I"⟩, 11) := ⟨⟨by decide +kernel, by decide +kernel⟩, List.mem_of_getElem? (i := 18) (by decide +kernel), List.mem_of_getElem? (i := 521) (by decide +kernel), List.mem_of_getElem? (i := 522) (by decide +kernel)⟩
def lw_privs_1 : List (MethodName × Nat) := [(⟨"StairManners", "refuse", "(I)I"⟩, 11), (⟨"StairManners$Text", "nextToken", "()V"⟩, 10), (⟨"StairManners$Text", "behindRun", "(III)I"⟩, 10), (⟨"StairManners$Text", "byteAt", "(I)I"⟩, 10), (⟨"StairManners$Text", "wordRead", "()I"⟩, 10), (⟨"StairManners$Text", "reads", "(Ljava/lang/String;)Z"⟩, 10), (⟨"StairManners$Text", "numberRead", "()I"⟩, 10), (⟨"StairManners$Text", "takes", "(LStairManners$House;)Z"⟩, 10), (⟨"StairManners$Text", "begins", "(LStairManners$House;)Z"⟩, 10), (⟨"StairManners$Text", "takesNumber", "(LStairManners$House;)Z"⟩, 10), (⟨"StairManners$Text", "lowest", "()I"⟩, 10), (⟨"StairManners$Text", "highest", "(I)I"⟩, 10), (⟨"StairManners$Text", "settle", "(LStairManners$House;)V"⟩, 10), (⟨"StairManners$Text", "settleKinds", "(LStairManners$Stand;)V"⟩, 10), (⟨"StairManners$House", "dropOldest", "()V"⟩, 11), (⟨"StairManners", "refusePlace", "()I"⟩, 11)]
theorem lw_r1 : ∀ q ∈ lw_privs_1, lw_okq q := List.forall_mem_cons.mpr ⟨lw_p0, List.forall_mem_cons.mpr ⟨lw_p1, List.forall_mem_cons.mpr ⟨lw_p2, List.forall_mem_cons.mpr ⟨lw_p3, List.forall_mem_cons.mpr ⟨lw_p4, List.forall_mem_cons.mpr ⟨lw_p5, List.forall_mem_cons.mpr ⟨lw_p6, List.forall_mem_cons.mpr ⟨lw_p7, List.forall_mem_cons.mpr ⟨lw_p8, List.forall_mem_cons.mpr ⟨lw_p9, List.forall_mem_cons.mpr ⟨lw_p10, List.forall_mem_cons.mpr ⟨lw_p11, List.forall_mem_cons.mpr ⟨lw_p12, List.forall_mem_cons.mpr ⟨lw_p13, List.forall_mem_cons.mpr ⟨lw_p14, List.forall_mem_cons.mpr ⟨lw_p15, fun _ h => absurd h List.not_mem_nil⟩⟩⟩⟩⟩⟩⟩⟩⟩⟩⟩⟩⟩⟩⟩⟩
theorem lw_p16 : lw_okq (⟨"StairManners$Stand", "bearsAbove", "(II)Z"⟩, 5) := ⟨⟨by decide +kernel, by decide +kernel⟩, List.mem_of_getElem? (i := 32) (by decide +kernel), List.mem_of_getElem? (i := 529) (by decide +kernel), List.mem_of_getElem? (i := 530) (by decide +kernel)⟩
theorem lw_p17 : lw_okq (⟨"StairManners$Plan", "soonestOf", "(I)I"⟩, 5) := ⟨⟨by decide +kernel, by decide +kernel⟩, List.mem_of_getElem? (i := 193) (by decide +kernel), List.mem_of_getElem? (i := 625) (by decide +kernel), List.mem_of_getElem? (i := 626) (by decide +kernel)⟩
theorem lw_p18 : lw_okq (⟨"StairManners$Plan", "firstMinute", "(II)I"⟩, 5) := ⟨⟨by decide +kernel, by decide +kernel⟩, List.mem_of_getElem? (i := 193) (by decide +kernel), List.mem_of_getElem? (i := 629) (by decide +kernel), List.mem_of_getElem? (i := 630) (by decide +kernel)⟩
theorem lw_p19 : lw_okq (⟨"StairManners$Plan", "latestOf", "(I)I"⟩, 5) := ⟨⟨by decide +kernel, by decide +kernel⟩, List.mem_of_getElem? (i := 193) (by decide +kernel), List.mem_of_getElem? (i := 642) (by decide +kernel), List.mem_of_getElem? (i := 643) (by decide +kernel)⟩
theorem lw_p20 : lw_okq (⟨"StairManners$Plan", "lastMinute", "(II)I"⟩, 5) := ⟨⟨by decide +kernel, by decide +kernel⟩, List.mem_of_getElem? (i := 193) (by decide +kernel), List.mem_of_getElem? (i := 646) (by decide +kernel), List.mem_of_getElem? (i := 647) (by decide +kernel)⟩
theorem lw_p21 : lw_okq (⟨"StairManners$Plan", "firstDeed", "(II)I"⟩, 5) := ⟨⟨by decide +kernel, by decide +kernel⟩, List.mem_of_getElem? (i := 193) (by decide +kernel), List.mem_of_getElem? (i := 650) (by decide +kernel), List.mem_of_getElem? (i := 651) (by decide +kernel)⟩
theorem lw_p22 : lw_okq (⟨"StairManners$Plan", "leavesTime", "(II)Z"⟩, 5) := ⟨⟨by decide +kernel, by decide +kernel⟩, List.mem_of_getElem? (i := 193) (by decide +kernel), List.mem_of_getElem? (i := 654) (by decide +kernel), List.mem_of_getElem? (i := 655) (by decide +kernel)⟩
theorem lw_p23 : lw_okq (⟨"StairManners", "add", "(LStairManners$Rows;IIII)I"⟩, 11) := ⟨⟨by decide +kernel, by decide +kernel⟩, List.mem_of_getElem? (i := 18) (by decide +kernel), List.mem_of_getElem? (i := 662) (by decide +kernel), List.mem_of_getElem? (i := 663) (by decide +kernel)⟩
theorem lw_p24 : lw_okq (⟨"StairManners$House", "hostGets", "(IIIIII)I"⟩, 11) := ⟨⟨by decide +kernel, by decide +kernel⟩, List.mem_of_getElem? (i := 26) (by decide +kernel), List.mem_of_getElem? (i := 772) (by decide +kernel), List.mem_of_getElem? (i := 773) (by decide +kernel)⟩
theorem lw_p25 : lw_okq (⟨"StairManners", "keepFraction", "(JJ)V"⟩, 11) := ⟨⟨by decide +kernel, by decide +kernel⟩, List.mem_of_getElem? (i := 18) (by decide +kernel), List.mem_of_getElem? (i := 783) (by decide +kernel), List.mem_of_getElem? (i := 784) (by decide +kernel)⟩
theorem lw_p26 : lw_okq (⟨"StairManners", "counted", "(I)I"⟩, 11) := ⟨⟨by decide +kernel, by decide +kernel⟩, List.mem_of_getElem? (i := 18) (by decide +kernel), List.mem_of_getElem? (i := 823) (by decide +kernel), List.mem_of_getElem? (i := 824) (by decide +kernel)⟩
theorem lw_p27 : lw_okq (⟨"StairMannersModel", "begin", "()V"⟩, 30) := ⟨⟨by decide +kernel, by decide +kernel⟩, List.mem_of_getElem? (i := 848) (by decide +kernel), List.mem_of_getElem? (i := 854) (by decide +kernel), List.mem_of_getElem? (i := 855) (by decide +kernel)⟩
theorem lw_p28 : lw_okq (⟨"StairMannersModel", "bad", "()I"⟩, 30) := ⟨⟨by decide +kernel, by decide +kernel⟩, List.mem_of_getElem? (i := 848) (by decide +kernel), List.mem_of_getElem? (i := 961) (by decide +kernel), List.mem_of_getElem? (i := 962) (by decide +kernel)⟩
theorem lw_p29 : lw_okq (⟨"StairMannersModel", "full", "()I"⟩, 30) := ⟨⟨by decide +kernel, by decide +kernel⟩, List.mem_of_getElem? (i := 848) (by decide +kernel), List.mem_of_getElem? (i := 965) (by decide +kernel), List.mem_of_getElem? (i := 966) (by decide +kernel)⟩
theorem lw_p30 : lw_okq (⟨"StairMannersModel", "addOne", "(II)I"⟩, 30) := ⟨⟨by decide +kernel, by decide +kernel⟩, List.mem_of_getElem? (i := 848) (by decide +kernel), List.mem_of_getElem? (i := 969) (by decide +kernel), List.mem_of_getElem? (i := 970) (by decide +kernel)⟩
theorem lw_p31 : lw_okq (⟨"StairMannersModel", "layAll", "([II)V"⟩, 30) := ⟨⟨by decide +kernel, by decide +kernel⟩, List.mem_of_getElem? (i := 848) (by decide +kernel), List.mem_of_getElem? (i := 985) (by decide +kernel), List.mem_of_getElem? (i := 986) (by decide +kernel)⟩
def lw_privs_2 : List (MethodName × Nat) := [(⟨"StairManners$Stand", "bearsAbove", "(II)Z"⟩, 5), (⟨"StairManners$Plan", "soonestOf", "(I)I"⟩, 5), (⟨"StairManners$Plan", "firstMinute", "(II)I"⟩, 5), (⟨"StairManners$Plan", "latestOf", "(I)I"⟩, 5), (⟨"StairManners$Plan", "lastMinute", "(II)I"⟩, 5), (⟨"StairManners$Plan", "firstDeed", "(II)I"⟩, 5), (⟨"StairManners$Plan", "leavesTime", "(II)Z"⟩, 5), (⟨"StairManners", "add", "(LStairManners$Rows;IIII)I"⟩, 11), (⟨"StairManners$House", "hostGets", "(IIIIII)I"⟩, 11), (⟨"StairManners", "keepFraction", "(JJ)V"⟩, 11), (⟨"StairManners", "counted", "(I)I"⟩, 11), (⟨"StairMannersModel", "begin", "()V"⟩, 30), (⟨"StairMannersModel", "bad", "()I"⟩, 30), (⟨"StairMannersModel", "full", "()I"⟩, 30), (⟨"StairMannersModel", "addOne", "(II)I"⟩, 30), (⟨"StairMannersModel", "layAll", "([II)V"⟩, 30)]
theorem lw_r2 : ∀ q ∈ lw_privs_2, lw_okq q := List.forall_mem_cons.mpr ⟨lw_p16, List.forall_mem_cons.mpr ⟨lw_p17, List.forall_mem_cons.mpr ⟨lw_p18, List.forall_mem_cons.mpr ⟨lw_p19, List.forall_mem_cons.mpr ⟨lw_p20, List.forall_mem_cons.mpr ⟨lw_p21, List.forall_mem_cons.mpr ⟨lw_p22, List.forall_mem_cons.mpr ⟨lw_p23, List.forall_mem_cons.mpr ⟨lw_p24, List.forall_mem_cons.mpr ⟨lw_p25, List.forall_mem_cons.mpr ⟨lw_p26, List.forall_mem_cons.mpr ⟨lw_p27, List.forall_mem_cons.mpr ⟨lw_p28, List.forall_mem_cons.mpr ⟨lw_p29, List.forall_mem_cons.mpr ⟨lw_p30, List.forall_mem_cons.mpr ⟨lw_p31, fun _ h => absurd h List.not_mem_nil⟩⟩⟩⟩⟩⟩⟩⟩⟩⟩⟩⟩⟩⟩⟩⟩
theorem lw_p32 : lw_okq (⟨"StairMannersModel", "lays", "([II)V"⟩, 30) := ⟨⟨by decide +kernel, by decide +kernel⟩, List.mem_of_getElem? (i := 848) (by decide +kernel), List.mem_of_getElem? (i := 989) (by decide +kernel), List.mem_of_getElem? (i := 990) (by decide +kernel)⟩
theorem lw_p33 : lw_okq (⟨"StairMannersModel", "readsHouse", "()I"⟩, 30) := ⟨⟨by decide +kernel, by decide +kernel⟩, List.mem_of_getElem? (i := 848) (by decide +kernel), List.mem_of_getElem? (i := 993) (by decide +kernel), List.mem_of_getElem? (i := 994) (by decide +kernel)⟩
theorem lw_p34 : lw_okq (⟨"StairMannersModel", "readsFirst", "()Z"⟩, 30) := ⟨⟨by decide +kernel, by decide +kernel⟩, List.mem_of_getElem? (i := 848) (by decide +kernel), List.mem_of_getElem? (i := 997) (by decide +kernel), List.mem_of_getElem? (i := 998) (by decide +kernel)⟩
theorem lw_p35 : lw_okq (⟨"StairMannersModel", "skip", "()V"⟩, 30) := ⟨⟨by decide +kernel, by decide +kernel⟩, List.mem_of_getElem? (i := 848) (by decide +kernel), List.mem_of_getElem? (i := 1001) (by decide +kernel), List.mem_of_getElem? (i := 1002) (by decide +kernel)⟩
theorem lw_p36 : lw_okq (⟨"StairMannersModel", "here", "()I"⟩, 30) := ⟨⟨by decide +kernel, by decide +kernel⟩, List.mem_of_getElem? (i := 848) (by decide +kernel), List.mem_of_getElem? (i := 1005) (by decide +kernel), List.mem_of_getElem? (i := 1006) (by decide +kernel)⟩
theorem lw_p37 : lw_okq (⟨"StairMannersModel", "wordHere", "()I"⟩, 30) := ⟨⟨by decide +kernel, by decide +kernel⟩, List.mem_of_getElem? (i := 848) (by decide +kernel), List.mem_of_getElem? (i := 1009) (by decide +kernel), List.mem_of_getElem? (i := 1010) (by decide +kernel)⟩
theorem lw_p38 : lw_okq (⟨"StairMannersModel", "wordSize", "()I"⟩, 30) := ⟨⟨by decide +kernel, by decide +kernel⟩, List.mem_of_getElem? (i := 848) (by decide +kernel), List.mem_of_getElem? (i := 1013) (by decide +kernel), List.mem_of_getElem? (i := 1014) (by decide +kernel)⟩
theorem lw_p39 : lw_okq (⟨"StairMannersModel", "letter", "(I)I"⟩, 30) := ⟨⟨by decide +kernel, by decide +kernel⟩, List.mem_of_getElem? (i := 848) (by decide +kernel), List.mem_of_getElem? (i := 1020) (by decide +kernel), List.mem_of_getElem? (i := 1021) (by decide +kernel)⟩
theorem lw_p40 : lw_okq (⟨"StairMannersModel", "number", "(II)Z"⟩, 30) := ⟨⟨by decide +kernel, by decide +kernel⟩, List.mem_of_getElem? (i := 848) (by decide +kernel), List.mem_of_getElem? (i := 1024) (by decide +kernel), List.mem_of_getElem? (i := 1025) (by decide +kernel)⟩
theorem lw_p41 : lw_okq (⟨"StairMannersModel", "ends", "()Z"⟩, 30) := ⟨⟨by decide +kernel, by decide +kernel⟩, List.mem_of_getElem? (i := 848) (by decide +kernel), List.mem_of_getElem? (i := 1031) (by decide +kernel), List.mem_of_getElem? (i := 1032) (by decide +kernel)⟩
theorem lw_p42 : lw_okq (⟨"StairMannersModel", "readsItem", "()Z"⟩, 30) := ⟨⟨by decide +kernel, by decide +kernel⟩, List.mem_of_getElem? (i := 848) (by decide +kernel), List.mem_of_getElem? (i := 1035) (by decide +kernel), List.mem_of_getElem? (i := 1036) (by decide +kernel)⟩
theorem lw_p43 : lw_okq (⟨"StairMannersModel", "readsOne", "()Z"⟩, 30) := ⟨⟨by decide +kernel, by decide +kernel⟩, List.mem_of_getElem? (i := 848) (by decide +kernel), List.mem_of_getElem? (i := 1039) (by decide +kernel), List.mem_of_getElem? (i := 1040) (by decide +kernel)⟩
theorem lw_p44 : lw_okq (⟨"StairMannersModel", "readsCarpet", "()Z"⟩, 30) := ⟨⟨by decide +kernel, by decide +kernel⟩, List.mem_of_getElem? (i := 848) (by decide +kernel), List.mem_of_getElem? (i := 1043) (by decide +kernel), List.mem_of_getElem? (i := 1044) (by decide +kernel)⟩
theorem lw_p45 : lw_okq (⟨"StairMannersModel", "readsMinutes", "()Z"⟩, 30) := ⟨⟨by decide +kernel, by decide +kernel⟩, List.mem_of_getElem? (i := 848) (by decide +kernel), List.mem_of_getElem? (i := 1047) (by decide +kernel), List.mem_of_getElem? (i := 1048) (by decide +kernel)⟩
theorem lw_p46 : lw_okq (⟨"StairMannersModel", "goesOn", "(I)V"⟩, 30) := ⟨⟨by decide +kernel, by decide +kernel⟩, List.mem_of_getElem? (i := 848) (by decide +kernel), List.mem_of_getElem? (i := 1051) (by decide +kernel), List.mem_of_getElem? (i := 1052) (by decide +kernel)⟩
theorem lw_p47 : lw_okq (⟨"StairMannersModel", "passes", "()V"⟩, 30) := ⟨⟨by decide +kernel, by decide +kernel⟩, List.mem_of_getElem? (i := 848) (by decide +kernel), List.mem_of_getElem? (i := 1055) (by decide +kernel), List.mem_of_getElem? (i := 1056) (by decide +kernel)⟩
def lw_privs_3 : List (MethodName × Nat) := [(⟨"StairMannersModel", "lays", "([II)V"⟩, 30), (⟨"StairMannersModel", "readsHouse", "()I"⟩, 30), (⟨"StairMannersModel", "readsFirst", "()Z"⟩, 30), (⟨"StairMannersModel", "skip", "()V"⟩, 30), (⟨"StairMannersModel", "here", "()I"⟩, 30), (⟨"StairMannersModel", "wordHere", "()I"⟩, 30), (⟨"StairMannersModel", "wordSize", "()I"⟩, 30), (⟨"StairMannersModel", "letter", "(I)I"⟩, 30), (⟨"StairMannersModel", "number", "(II)Z"⟩, 30), (⟨"StairMannersModel", "ends", "()Z"⟩, 30), (⟨"StairMannersModel", "readsItem", "()Z"⟩, 30), (⟨"StairMannersModel", "readsOne", "()Z"⟩, 30), (⟨"StairMannersModel", "readsCarpet", "()Z"⟩, 30), (⟨"StairMannersModel", "readsMinutes", "()Z"⟩, 30), (⟨"StairMannersModel", "goesOn", "(I)V"⟩, 30), (⟨"StairMannersModel", "passes", "()V"⟩, 30)]
theorem lw_r3 : ∀ q ∈ lw_privs_3, lw_okq q := List.forall_mem_cons.mpr ⟨lw_p32, List.forall_mem_cons.mpr ⟨lw_p33, List.forall_mem_cons.mpr ⟨lw_p34, List.forall_mem_cons.mpr ⟨lw_p35, List.forall_mem_cons.mpr ⟨lw_p36, List.forall_mem_cons.mpr ⟨lw_p37, List.forall_mem_cons.mpr ⟨lw_p38, List.forall_mem_cons.mpr ⟨lw_p39, List.forall_mem_cons.mpr ⟨lw_p40, List.forall_mem_cons.mpr ⟨lw_p41, List.forall_mem_cons.mpr ⟨lw_p42, List.forall_mem_cons.mpr ⟨lw_p43, List.forall_mem_cons.mpr ⟨lw_p44, List.forall_mem_cons.mpr ⟨lw_p45, List.forall_mem_cons.mpr ⟨lw_p46, List.forall_mem_cons.mpr ⟨lw_p47, fun _ h => absurd h List.not_mem_nil⟩⟩⟩⟩⟩⟩⟩⟩⟩⟩⟩⟩⟩⟩⟩⟩
theorem lw_p48 : lw_okq (⟨"StairMannersModel", "readsWhere", "(Z)Z"⟩, 30) := ⟨⟨by decide +kernel, by decide +kernel⟩, List.mem_of_getElem? (i := 848) (by decide +kernel), List.mem_of_getElem? (i := 1062) (by decide +kernel), List.mem_of_getElem? (i := 1063) (by decide +kernel)⟩
theorem lw_p49 : lw_okq (⟨"StairMannersModel", "takeAll", "([II)V"⟩, 30) := ⟨⟨by decide +kernel, by decide +kernel⟩, List.mem_of_getElem? (i := 848) (by decide +kernel), List.mem_of_getElem? (i := 1066) (by decide +kernel), List.mem_of_getElem? (i := 1067) (by decide +kernel)⟩
theorem lw_p50 : lw_okq (⟨"StairMannersModel", "takes", "([II)V"⟩, 30) := ⟨⟨by decide +kernel, by decide +kernel⟩, List.mem_of_getElem? (i := 848) (by decide +kernel), List.mem_of_getElem? (i := 1070) (by decide +kernel), List.mem_of_getElem? (i := 1071) (by decide +kernel)⟩
theorem lw_p51 : lw_okq (⟨"StairMannersModel", "isOne", "(I)Z"⟩, 30) := ⟨⟨by decide +kernel, by decide +kernel⟩, List.mem_of_getElem? (i := 848) (by decide +kernel), List.mem_of_getElem? (i := 1078) (by decide +kernel), List.mem_of_getElem? (i := 1079) (by decide +kernel)⟩
theorem lw_p52 : lw_okq (⟨"StairMannersModel", "no", "()I"⟩, 30) := ⟨⟨by decide +kernel, by decide +kernel⟩, List.mem_of_getElem? (i := 848) (by decide +kernel), List.mem_of_getElem? (i := 1085) (by decide +kernel), List.mem_of_getElem? (i := 1086) (by decide +kernel)⟩
theorem lw_p53 : lw_okq (⟨"StairMannersModel", "notes", "()V"⟩, 30) := ⟨⟨by decide +kernel, by decide +kernel⟩, List.mem_of_getElem? (i := 848) (by decide +kernel), List.mem_of_getElem? (i := 1089) (by decide +kernel), List.mem_of_getElem? (i := 1090) (by decide +kernel)⟩
theorem lw_p54 : lw_okq (⟨"StairMannersModel", "learns", "(II)V"⟩, 30) := ⟨⟨by decide +kernel, by decide +kernel⟩, List.mem_of_getElem? (i := 848) (by decide +kernel), List.mem_of_getElem? (i := 1093) (by decide +kernel), List.mem_of_getElem? (i := 1094) (by decide +kernel)⟩
theorem lw_p55 : lw_okq (⟨"StairMannersModel", "dayMinute", "()I"⟩, 30) := ⟨⟨by decide +kernel, by decide +kernel⟩, List.mem_of_getElem? (i := 848) (by decide +kernel), List.mem_of_getElem? (i := 1097) (by decide +kernel), List.mem_of_getElem? (i := 1098) (by decide +kernel)⟩
theorem lw_p56 : lw_okq (⟨"StairMannersModel", "mayMeet", "(III)Z"⟩, 30) := ⟨⟨by decide +kernel, by decide +kernel⟩, List.mem_of_getElem? (i := 848) (by decide +kernel), List.mem_of_getElem? (i := 1101) (by decide +kernel), List.mem_of_getElem? (i := 1102) (by decide +kernel)⟩
theorem lw_p57 : lw_okq (⟨"StairMannersModel", "wordFor", "(III)I"⟩, 30) := ⟨⟨by decide +kernel, by decide +kernel⟩, List.mem_of_getElem? (i := 848) (by decide +kernel), List.mem_of_getElem? (i := 1105) (by decide +kernel), List.mem_of_getElem? (i := 1106) (by decide +kernel)⟩
theorem lw_p58 : lw_okq (⟨"StairMannersModel", "worth", "(II)I"⟩, 30) := ⟨⟨by decide +kernel, by decide +kernel⟩, List.mem_of_getElem? (i := 848) (by decide +kernel), List.mem_of_getElem? (i := 1109) (by decide +kernel), List.mem_of_getElem? (i := 1110) (by decide +kernel)⟩
theorem lw_p59 : lw_okq (⟨"StairMannersModel", "wants", "(III)I"⟩, 30) := ⟨⟨by decide +kernel, by decide +kernel⟩, List.mem_of_getElem? (i := 848) (by decide +kernel), List.mem_of_getElem? (i := 1116) (by decide +kernel), List.mem_of_getElem? (i := 1117) (by decide +kernel)⟩
theorem lw_p60 : lw_okq (⟨"StairMannersModel", "tenBad", "()I"⟩, 30) := ⟨⟨by decide +kernel, by decide +kernel⟩, List.mem_of_getElem? (i := 848) (by decide +kernel), List.mem_of_getElem? (i := 1130) (by decide +kernel), List.mem_of_getElem? (i := 1131) (by decide +kernel)⟩
theorem lw_p61 : lw_okq (⟨"StairMannersModel", "knownAll", "()I"⟩, 30) := ⟨⟨by decide +kernel, by decide +kernel⟩, List.mem_of_getElem? (i := 848) (by decide +kernel), List.mem_of_getElem? (i := 1138) (by decide +kernel), List.mem_of_getElem? (i := 1139) (by decide +kernel)⟩
theorem lw_p62 : lw_okq (⟨"StairMannersModel", "whoKnows", "(I)I"⟩, 30) := ⟨⟨by decide +kernel, by decide +kernel⟩, List.mem_of_getElem? (i := 848) (by decide +kernel), List.mem_of_getElem? (i := 1153) (by decide +kernel), List.mem_of_getElem? (i := 1154) (by decide +kernel)⟩
theorem lw_p63 : lw_okq (⟨"StairMannersModel", "setMay", "(I)V"⟩, 30) := ⟨⟨by decide +kernel, by decide +kernel⟩, List.mem_of_getElem? (i := 848) (by decide +kernel), List.mem_of_getElem? (i := 1193) (by decide +kernel), List.mem_of_getElem? (i := 1194) (by decide +kernel)⟩
def lw_privs_4 : List (MethodName × Nat) := [(⟨"StairMannersModel", "readsWhere", "(Z)Z"⟩, 30), (⟨"StairMannersModel", "takeAll", "([II)V"⟩, 30), (⟨"StairMannersModel", "takes", "([II)V"⟩, 30), (⟨"StairMannersModel", "isOne", "(I)Z"⟩, 30), (⟨"StairMannersModel", "no", "()I"⟩, 30), (⟨"StairMannersModel", "notes", "()V"⟩, 30), (⟨"StairMannersModel", "learns", "(II)V"⟩, 30), (⟨"StairMannersModel", "dayMinute", "()I"⟩, 30), (⟨"StairMannersModel", "mayMeet", "(III)Z"⟩, 30), (⟨"StairMannersModel", "wordFor", "(III)I"⟩, 30), (⟨"StairMannersModel", "worth", "(II)I"⟩, 30), (⟨"StairMannersModel", "wants", "(III)I"⟩, 30), (⟨"StairMannersModel", "tenBad", "()I"⟩, 30), (⟨"StairMannersModel", "knownAll", "()I"⟩, 30), (⟨"StairMannersModel", "whoKnows", "(I)I"⟩, 30), (⟨"StairMannersModel", "setMay", "(I)V"⟩, 30)]
theorem lw_r4 : ∀ q ∈ lw_privs_4, lw_okq q := List.forall_mem_cons.mpr ⟨lw_p48, List.forall_mem_cons.mpr ⟨lw_p49, List.forall_mem_cons.mpr ⟨lw_p50, List.forall_mem_cons.mpr ⟨lw_p51, List.forall_mem_cons.mpr ⟨lw_p52, List.forall_mem_cons.mpr ⟨lw_p53, List.forall_mem_cons.mpr ⟨lw_p54, List.forall_mem_cons.mpr ⟨lw_p55, List.forall_mem_cons.mpr ⟨lw_p56, List.forall_mem_cons.mpr ⟨lw_p57, List.forall_mem_cons.mpr ⟨lw_p58, List.forall_mem_cons.mpr ⟨lw_p59, List.forall_mem_cons.mpr ⟨lw_p60, List.forall_mem_cons.mpr ⟨lw_p61, List.forall_mem_cons.mpr ⟨lw_p62, List.forall_mem_cons.mpr ⟨lw_p63, fun _ h => absurd h List.not_mem_nil⟩⟩⟩⟩⟩⟩⟩⟩⟩⟩⟩⟩⟩⟩⟩⟩
theorem lw_p64 : lw_okq (⟨"StairMannersModel", "isMay", "(II)Z"⟩, 30) := ⟨⟨by decide +kernel, by decide +kernel⟩, List.mem_of_getElem? (i := 848) (by decide +kernel), List.mem_of_getElem? (i := 1197) (by decide +kernel), List.mem_of_getElem? (i := 1198) (by decide +kernel)⟩
theorem lw_p65 : lw_okq (⟨"StairMannersModel", "does", "(II)I"⟩, 30) := ⟨⟨by decide +kernel, by decide +kernel⟩, List.mem_of_getElem? (i := 848) (by decide +kernel), List.mem_of_getElem? (i := 1201) (by decide +kernel), List.mem_of_getElem? (i := 1202) (by decide +kernel)⟩
theorem lw_p66 : lw_okq (⟨"StairMannersModel", "mayKnow", "(II)Z"⟩, 30) := ⟨⟨by decide +kernel, by decide +kernel⟩, List.mem_of_getElem? (i := 848) (by decide +kernel), List.mem_of_getElem? (i := 1213) (by decide +kernel), List.mem_of_getElem? (i := 1214) (by decide +kernel)⟩
theorem lw_p67 : lw_okq (⟨"StairMannersModel", "stepKinds", "(I)I"⟩, 30) := ⟨⟨by decide +kernel, by decide +kernel⟩, List.mem_of_getElem? (i := 848) (by decide +kernel), List.mem_of_getElem? (i := 1233) (by decide +kernel), List.mem_of_getElem? (i := 1234) (by decide +kernel)⟩
theorem lw_p68 : lw_okq (⟨"StairMannersModel", "peopleKinds", "(I)I"⟩, 30) := ⟨⟨by decide +kernel, by decide +kernel⟩, List.mem_of_getElem? (i := 848) (by decide +kernel), List.mem_of_getElem? (i := 1241) (by decide +kernel), List.mem_of_getElem? (i := 1242) (by decide +kernel)⟩
theorem lw_p69 : lw_okq (⟨"StairMannersModel", "gets", "(IIIIII)I"⟩, 30) := ⟨⟨by decide +kernel, by decide +kernel⟩, List.mem_of_getElem? (i := 848) (by decide +kernel), List.mem_of_getElem? (i := 1264) (by decide +kernel), List.mem_of_getElem? (i := 1265) (by decide +kernel)⟩
theorem lw_p70 : lw_okq (⟨"StairMannersModel", "lay", "(JJ)V"⟩, 30) := ⟨⟨by decide +kernel, by decide +kernel⟩, List.mem_of_getElem? (i := 848) (by decide +kernel), List.mem_of_getElem? (i := 1273) (by decide +kernel), List.mem_of_getElem? (i := 1274) (by decide +kernel)⟩
theorem lw_p71 : lw_okq (⟨"StairMannersModel", "countOf", "(I)I"⟩, 30) := ⟨⟨by decide +kernel, by decide +kernel⟩, List.mem_of_getElem? (i := 848) (by decide +kernel), List.mem_of_getElem? (i := 1309) (by decide +kernel), List.mem_of_getElem? (i := 1310) (by decide +kernel)⟩
theorem lw_p72 : lw_okq (⟨"StairMannersModel", "topMany", "()I"⟩, 30) := ⟨⟨by decide +kernel, by decide +kernel⟩, List.mem_of_getElem? (i := 848) (by decide +kernel), List.mem_of_getElem? (i := 1313) (by decide +kernel), List.mem_of_getElem? (i := 1314) (by decide +kernel)⟩
theorem lw_p73 : lw_okq (⟨"StairMannersModel", "mix", "(J)V"⟩, 30) := ⟨⟨by decide +kernel, by decide +kernel⟩, List.mem_of_getElem? (i := 848) (by decide +kernel), List.mem_of_getElem? (i := 1322) (by decide +kernel), List.mem_of_getElem? (i := 1323) (by decide +kernel)⟩
def lw_privs_5 : List (MethodName × Nat) := [(⟨"StairMannersModel", "isMay", "(II)Z"⟩, 30), (⟨"StairMannersModel", "does", "(II)I"⟩, 30), (⟨"StairMannersModel", "mayKnow", "(II)Z"⟩, 30), (⟨"StairMannersModel", "stepKinds", "(I)I"⟩, 30), (⟨"StairMannersModel", "peopleKinds", "(I)I"⟩, 30), (⟨"StairMannersModel", "gets", "(IIIIII)I"⟩, 30), (⟨"StairMannersModel", "lay", "(JJ)V"⟩, 30), (⟨"StairMannersModel", "countOf", "(I)I"⟩, 30), (⟨"StairMannersModel", "topMany", "()I"⟩, 30), (⟨"StairMannersModel", "mix", "(J)V"⟩, 30)]
theorem lw_r5 : ∀ q ∈ lw_privs_5, lw_okq q := List.forall_mem_cons.mpr ⟨lw_p64, List.forall_mem_cons.mpr ⟨lw_p65, List.forall_mem_cons.mpr ⟨lw_p66, List.forall_mem_cons.mpr ⟨lw_p67, List.forall_mem_cons.mpr ⟨lw_p68, List.forall_mem_cons.mpr ⟨lw_p69, List.forall_mem_cons.mpr ⟨lw_p70, List.forall_mem_cons.mpr ⟨lw_p71, List.forall_mem_cons.mpr ⟨lw_p72, List.forall_mem_cons.mpr ⟨lw_p73, fun _ h => absurd h List.not_mem_nil⟩⟩⟩⟩⟩⟩⟩⟩⟩⟩
def lw_privs : List (MethodName × Nat) := lw_privs_1 ++ (lw_privs_2 ++ (lw_privs_3 ++ (lw_privs_4 ++ (lw_privs_5))))
def lw_tbl : List Cond := k2_sels lw_privs ++ tables_1
theorem lw_privs_ok : ∀ q ∈ lw_privs, lw_okq q := by
  show ∀ q ∈ lw_privs_1 ++ (lw_privs_2 ++ (lw_privs_3 ++ (lw_privs_4 ++ (lw_privs_5)))), lw_okq q
  exact List.forall_mem_append.mpr ⟨lw_r1, List.forall_mem_append.mpr ⟨lw_r2, List.forall_mem_append.mpr ⟨lw_r3, List.forall_mem_append.mpr ⟨lw_r4, lw_r5⟩⟩⟩⟩
end
section
def RX0 : String := "StairManners$House"
def TX0 : u_T := fun k => match k with
  | 0 => ("StairManners$House", "people", "I", false)
  | 1 => ("StairManners$House", "kind", "[I", true)
  | 2 => ("StairManners$House", "weight", "[I", true)
  | 3 => ("StairManners$House", "stand", "LStairManners$Stand;", true)
  | 4 => ("StairManners$House", "past", "[LStairManners$Stand;", true)
  | 5 => ("StairManners$House", "pastCount", "I", false)
  | 6 => ("StairManners$House", "sights", "LStairManners$Rows;", true)
  | 7 => ("StairManners$House", "notes", "LStairManners$Rows;", true)
  | 8 => ("StairManners$House", "marks", "LStairManners$Rows;", true)
  | 9 => ("StairManners$House", "stepKinds", "LStairManners$StepKinds;", true)
  | _ => ("StairManners$House", "personKinds", "LStairManners$PersonKinds;", true)
def tyX0 : Nat → FieldType := fun k => match k with
  | 0 => .int
  | 1 => .array .int
  | 2 => .array .int
  | 3 => .object "StairManners$Stand"
  | 4 => .array (.object "StairManners$Stand")
  | 5 => .int
  | 6 => .object "StairManners$Rows"
  | 7 => .object "StairManners$Rows"
  | 8 => .object "StairManners$Rows"
  | 9 => .object "StairManners$StepKinds"
  | _ => .object "StairManners$PersonKinds"
abbrev wsX00 : List Cond := u_ws RX0 TX0 11
theorem nmX0 : ∀ a, a < 11 → ∀ b, b < 11 → a ≠ b → (TX0 a).2.1 ≠ (TX0 b).2.1 := by decide +kernel
theorem tyX0_ok : ∀ k, k < 11 → parseFieldDescriptor (TX0 k).2.2.1 = some (tyX0 k) := by decide +kernel
abbrev cX0_init : ByteArray := prog_2_method_1_code
def yX0_init : MethodName := ⟨RX0, "<init>", "()V"⟩
abbrev cX0_empty : ByteArray := prog_2_method_2_code
def yX0_empty : MethodName := ⟨RX0, "empty", "()V"⟩
abbrev cX0_copyPeople : ByteArray := prog_2_method_3_code
def yX0_copyPeople : MethodName := ⟨RX0, "copyPeople", "(LStairManners$House;)V"⟩
abbrev cX0_copyFrom : ByteArray := prog_2_method_4_code
def yX0_copyFrom : MethodName := ⟨RX0, "copyFrom", "(LStairManners$House;)V"⟩
abbrev cX0_hasPerson : ByteArray := prog_2_method_5_code
def yX0_hasPerson : MethodName := ⟨RX0, "hasPerson", "(I)Z"⟩
abbrev cX0_welcome : ByteArray := prog_2_method_6_code
def yX0_welcome : MethodName := ⟨RX0, "welcome", "(II)V"⟩
abbrev cX0_remember : ByteArray := prog_2_method_7_code
def yX0_remember : MethodName := ⟨RX0, "remember", "()V"⟩
abbrev cX0_dropOldest : ByteArray := prog_2_method_8_code
def yX0_dropOldest : MethodName := ⟨RX0, "dropOldest", "()V"⟩
abbrev cX0_goBack : ByteArray := prog_2_method_9_code
def yX0_goBack : MethodName := ⟨RX0, "goBack", "()V"⟩
abbrev cX0_worth : ByteArray := prog_2_method_10_code
def yX0_worth : MethodName := ⟨RX0, "worth", "(II)I"⟩
abbrev cX0_wanted : ByteArray := prog_2_method_11_code
def yX0_wanted : MethodName := ⟨RX0, "wanted", "(III)I"⟩
abbrev cX0_othersWhoKnow : ByteArray := prog_2_method_12_code
def yX0_othersWhoKnow : MethodName := ⟨RX0, "othersWhoKnow", "(II)I"⟩
abbrev cX0_wordOf : ByteArray := prog_2_method_13_code
def yX0_wordOf : MethodName := ⟨RX0, "wordOf", "(II)I"⟩
abbrev cX0_couldMeet : ByteArray := prog_2_method_14_code
def yX0_couldMeet : MethodName := ⟨RX0, "couldMeet", "(IIII)Z"⟩
abbrev cX0_introduce : ByteArray := prog_2_method_15_code
def yX0_introduce : MethodName := ⟨RX0, "introduce", "(II)V"⟩
abbrev cX0_meetable : ByteArray := prog_2_method_16_code
def yX0_meetable : MethodName := ⟨RX0, "meetable", "(III)I"⟩
abbrev cX0_lacking : ByteArray := prog_2_method_17_code
def yX0_lacking : MethodName := ⟨RX0, "lacking", "(II)I"⟩
abbrev cX0_fitsSights : ByteArray := prog_2_method_18_code
def yX0_fitsSights : MethodName := ⟨RX0, "fitsSights", "(II)Z"⟩
abbrev cX0_restingPairs : ByteArray := prog_2_method_19_code
def yX0_restingPairs : MethodName := ⟨RX0, "restingPairs", "(IIII)I"⟩
abbrev cX0_hostGets : ByteArray := prog_2_method_20_code
def yX0_hostGets : MethodName := ⟨RX0, "hostGets", "(IIIIII)I"⟩
abbrev cX0_digestOn : ByteArray := prog_2_method_21_code
def yX0_digestOn : MethodName := ⟨RX0, "digestOn", "(J)J"⟩
def RX1 : String := "StairManners$KindTree"
def TX1 : u_T := fun k => match k with
  | _ => ("", "", "", false)
def tyX1 : Nat → FieldType := fun k => match k with
  | _ => .int
abbrev wsX10 : List Cond := u_ws RX1 TX1 0
theorem nmX1 : ∀ a, a < 0 → ∀ b, b < 0 → a ≠ b → (TX1 a).2.1 ≠ (TX1 b).2.1 := by decide +kernel
theorem tyX1_ok : ∀ k, k < 0 → parseFieldDescriptor (TX1 k).2.2.1 = some (tyX1 k) := by decide +kernel
abbrev cX1_init : ByteArray := prog_3_method_1_code
def yX1_init : MethodName := ⟨RX1, "<init>", "()V"⟩
abbrev cX1_fitting : ByteArray := prog_3_method_4_code
def yX1_fitting : MethodName := ⟨RX1, "fitting", "(LStairManners$Rows;I)I"⟩
abbrev cX1_nextQuestion : ByteArray := prog_3_method_5_code
def yX1_nextQuestion : MethodName := ⟨RX1, "nextQuestion", "(LStairManners$Rows;I)I"⟩
abbrev cX1_fits : ByteArray := prog_3_method_6_code
def yX1_fits : MethodName := ⟨RX1, "fits", "(ILStairManners$Rows;I)Z"⟩
abbrev cX1_mostAlike : ByteArray := prog_3_method_7_code
def yX1_mostAlike : MethodName := ⟨RX1, "mostAlike", "(III)I"⟩
abbrev cX1_alike : ByteArray := prog_3_method_8_code
def yX1_alike : MethodName := ⟨RX1, "alike", "(IIII)I"⟩
def RX2 : String := "StairManners$PersonKinds"
def TX2 : u_T := fun k => match k with
  | _ => ("", "", "", false)
def tyX2 : Nat → FieldType := fun k => match k with
  | _ => .int
abbrev wsX20 : List Cond := u_ws RX2 TX2 0
theorem nmX2 : ∀ a, a < 0 → ∀ b, b < 0 → a ≠ b → (TX2 a).2.1 ≠ (TX2 b).2.1 := by decide +kernel
theorem tyX2_ok : ∀ k, k < 0 → parseFieldDescriptor (TX2 k).2.2.1 = some (tyX2 k) := by decide +kernel
abbrev cX2_init : ByteArray := prog_4_method_1_code
def yX2_init : MethodName := ⟨RX2, "<init>", "()V"⟩
abbrev cX2_answer : ByteArray := prog_4_method_2_code
def yX2_answer : MethodName := ⟨RX2, "answer", "(III)I"⟩
abbrev cX2_bestQuestion : ByteArray := prog_4_method_3_code
def yX2_bestQuestion : MethodName := ⟨RX2, "bestQuestion", "(I)I"⟩
def RX3 : String := "StairManners$Plan"
def TX3 : u_T := fun k => match k with
  | 0 => ("StairManners$Plan", "meetable", "[I", true)
  | 1 => ("StairManners$Plan", "soonest", "[I", true)
  | 2 => ("StairManners$Plan", "latest", "[I", true)
  | 3 => ("StairManners$Plan", "lacking", "I", false)
  | _ => ("StairManners$Plan", "length", "I", false)
def tyX3 : Nat → FieldType := fun k => match k with
  | 0 => .array .int
  | 1 => .array .int
  | 2 => .array .int
  | 3 => .int
  | _ => .int
abbrev wsX30 : List Cond := u_ws RX3 TX3 5
theorem nmX3 : ∀ a, a < 5 → ∀ b, b < 5 → a ≠ b → (TX3 a).2.1 ≠ (TX3 b).2.1 := by decide +kernel
theorem tyX3_ok : ∀ k, k < 5 → parseFieldDescriptor (TX3 k).2.2.1 = some (tyX3 k) := by decide +kernel
abbrev cX3_init : ByteArray := prog_5_method_1_code
def yX3_init : MethodName := ⟨RX3, "<init>", "()V"⟩
abbrev cX3_make : ByteArray := prog_5_method_2_code
def yX3_make : MethodName := ⟨RX3, "make", "(LStairManners$House;II)I"⟩
abbrev cX3_soonestOf : ByteArray := prog_5_method_3_code
def yX3_soonestOf : MethodName := ⟨RX3, "soonestOf", "(I)I"⟩
abbrev cX3_firstMinute : ByteArray := prog_5_method_4_code
def yX3_firstMinute : MethodName := ⟨RX3, "firstMinute", "(II)I"⟩
abbrev cX3_deed : ByteArray := prog_5_method_5_code
def yX3_deed : MethodName := ⟨RX3, "deed", "(I)I"⟩
abbrev cX3_latestOf : ByteArray := prog_5_method_6_code
def yX3_latestOf : MethodName := ⟨RX3, "latestOf", "(I)I"⟩
abbrev cX3_lastMinute : ByteArray := prog_5_method_7_code
def yX3_lastMinute : MethodName := ⟨RX3, "lastMinute", "(II)I"⟩
abbrev cX3_firstDeed : ByteArray := prog_5_method_8_code
def yX3_firstDeed : MethodName := ⟨RX3, "firstDeed", "(II)I"⟩
abbrev cX3_leavesTime : ByteArray := prog_5_method_9_code
def yX3_leavesTime : MethodName := ⟨RX3, "leavesTime", "(II)Z"⟩
def RX4 : String := "StairManners$Rows"
def TX4 : u_T := fun k => match k with
  | 0 => ("StairManners$Rows", "size", "I", false)
  | _ => ("StairManners$Rows", "cells", "[I", true)
def tyX4 : Nat → FieldType := fun k => match k with
  | 0 => .int
  | _ => .array .int
abbrev wsX40 : List Cond := u_ws RX4 TX4 2
theorem nmX4 : ∀ a, a < 2 → ∀ b, b < 2 → a ≠ b → (TX4 a).2.1 ≠ (TX4 b).2.1 := by decide +kernel
theorem tyX4_ok : ∀ k, k < 2 → parseFieldDescriptor (TX4 k).2.2.1 = some (tyX4 k) := by decide +kernel
abbrev cX4_init : ByteArray := prog_6_method_1_code
def yX4_init : MethodName := ⟨RX4, "<init>", "()V"⟩
abbrev cX4_cell : ByteArray := prog_6_method_2_code
def yX4_cell : MethodName := ⟨RX4, "cell", "(II)I"⟩
abbrev cX4_append : ByteArray := prog_6_method_3_code
def yX4_append : MethodName := ⟨RX4, "append", "(IIII)V"⟩
abbrev cX4_drop : ByteArray := prog_6_method_4_code
def yX4_drop : MethodName := ⟨RX4, "drop", "()I"⟩
abbrev cX4_copyFrom : ByteArray := prog_6_method_5_code
def yX4_copyFrom : MethodName := ⟨RX4, "copyFrom", "(LStairManners$Rows;)V"⟩
abbrev cX4_digestOn : ByteArray := prog_6_method_6_code
def yX4_digestOn : MethodName := ⟨RX4, "digestOn", "(JI)J"⟩
def RX5 : String := "StairManners$Stand"
def TX5 : u_T := fun k => match k with
  | 0 => ("StairManners$Stand", "stepKind", "[I", true)
  | 1 => ("StairManners$Stand", "knows", "[I", true)
  | 2 => ("StairManners$Stand", "where", "[I", true)
  | 3 => ("StairManners$Stand", "carpets", "I", false)
  | _ => ("StairManners$Stand", "minute", "I", false)
def tyX5 : Nat → FieldType := fun k => match k with
  | 0 => .array .int
  | 1 => .array .int
  | 2 => .array .int
  | 3 => .int
  | _ => .int
abbrev wsX50 : List Cond := u_ws RX5 TX5 5
theorem nmX5 : ∀ a, a < 5 → ∀ b, b < 5 → a ≠ b → (TX5 a).2.1 ≠ (TX5 b).2.1 := by decide +kernel
theorem tyX5_ok : ∀ k, k < 5 → parseFieldDescriptor (TX5 k).2.2.1 = some (tyX5 k) := by decide +kernel
abbrev cX5_init : ByteArray := prog_7_method_1_code
def yX5_init : MethodName := ⟨RX5, "<init>", "()V"⟩
abbrev cX5_reset : ByteArray := prog_7_method_2_code
def yX5_reset : MethodName := ⟨RX5, "reset", "()V"⟩
abbrev cX5_copyFrom : ByteArray := prog_7_method_3_code
def yX5_copyFrom : MethodName := ⟨RX5, "copyFrom", "(LStairManners$Stand;)V"⟩
abbrev cX5_isKnown : ByteArray := prog_7_method_4_code
def yX5_isKnown : MethodName := ⟨RX5, "isKnown", "(II)Z"⟩
abbrev cX5_knowers : ByteArray := prog_7_method_5_code
def yX5_knowers : MethodName := ⟨RX5, "knowers", "(I)I"⟩
abbrev cX5_knownTogether : ByteArray := prog_7_method_6_code
def yX5_knownTogether : MethodName := ⟨RX5, "knownTogether", "()I"⟩
abbrev cX5_atTop : ByteArray := prog_7_method_7_code
def yX5_atTop : MethodName := ⟨RX5, "atTop", "()I"⟩
abbrev cX5_toldOn : ByteArray := prog_7_method_8_code
def yX5_toldOn : MethodName := ⟨RX5, "toldOn", "(I)I"⟩
abbrev cX5_passMinute : ByteArray := prog_7_method_9_code
def yX5_passMinute : MethodName := ⟨RX5, "passMinute", "()V"⟩
abbrev cX5_passMinutes : ByteArray := prog_7_method_10_code
def yX5_passMinutes : MethodName := ⟨RX5, "passMinutes", "(I)V"⟩
abbrev cX5_learn : ByteArray := prog_7_method_11_code
def yX5_learn : MethodName := ⟨RX5, "learn", "(II)V"⟩
abbrev cX5_stayAt : ByteArray := prog_7_method_12_code
def yX5_stayAt : MethodName := ⟨RX5, "stayAt", "(II)V"⟩
abbrev cX5_putIn : ByteArray := prog_7_method_13_code
def yX5_putIn : MethodName := ⟨RX5, "putIn", "(II)V"⟩
abbrev cX5_bearsAbove : ByteArray := prog_7_method_14_code
def yX5_bearsAbove : MethodName := ⟨RX5, "bearsAbove", "(II)Z"⟩
abbrev cX5_walk : ByteArray := prog_7_method_15_code
def yX5_walk : MethodName := ⟨RX5, "walk", "(II)V"⟩
abbrev cX5_highest : ByteArray := prog_7_method_16_code
def yX5_highest : MethodName := ⟨RX5, "highest", "(I)I"⟩
def RX6 : String := "StairManners$StepKinds"
def TX6 : u_T := fun k => match k with
  | _ => ("", "", "", false)
def tyX6 : Nat → FieldType := fun k => match k with
  | _ => .int
abbrev wsX60 : List Cond := u_ws RX6 TX6 0
theorem nmX6 : ∀ a, a < 0 → ∀ b, b < 0 → a ≠ b → (TX6 a).2.1 ≠ (TX6 b).2.1 := by decide +kernel
theorem tyX6_ok : ∀ k, k < 0 → parseFieldDescriptor (TX6 k).2.2.1 = some (tyX6 k) := by decide +kernel
abbrev cX6_init : ByteArray := prog_8_method_1_code
def yX6_init : MethodName := ⟨RX6, "<init>", "()V"⟩
abbrev cX6_answer : ByteArray := prog_8_method_2_code
def yX6_answer : MethodName := ⟨RX6, "answer", "(III)I"⟩
abbrev cX6_bestQuestion : ByteArray := prog_8_method_3_code
def yX6_bestQuestion : MethodName := ⟨RX6, "bestQuestion", "(I)I"⟩
def RX7 : String := "StairManners$Text"
def TX7 : u_T := fun k => match k with
  | 0 => ("StairManners$Text", "size", "I", false)
  | 1 => ("StairManners$Text", "bytes", "[I", true)
  | 2 => ("StairManners$Text", "start", "I", false)
  | 3 => ("StairManners$Text", "behind", "I", false)
  | 4 => ("StairManners$Text", "sort", "I", false)
  | 5 => ("StairManners$Text", "value", "I", false)
  | 6 => ("StairManners$Text", "word", "I", false)
  | 7 => ("StairManners$Text", "given", "I", false)
  | 8 => ("StairManners$Text", "numbers", "[I", true)
  | _ => ("StairManners$Text", "items", "I", false)
def tyX7 : Nat → FieldType := fun k => match k with
  | 0 => .int
  | 1 => .array .int
  | 2 => .int
  | 3 => .int
  | 4 => .int
  | 5 => .int
  | 6 => .int
  | 7 => .int
  | 8 => .array .int
  | _ => .int
abbrev wsX70 : List Cond := u_ws RX7 TX7 10
theorem nmX7 : ∀ a, a < 10 → ∀ b, b < 10 → a ≠ b → (TX7 a).2.1 ≠ (TX7 b).2.1 := by decide +kernel
theorem tyX7_ok : ∀ k, k < 10 → parseFieldDescriptor (TX7 k).2.2.1 = some (tyX7 k) := by decide +kernel
abbrev cX7_init : ByteArray := prog_9_method_1_code
def yX7_init : MethodName := ⟨RX7, "<init>", "()V"⟩
abbrev cX7_append : ByteArray := prog_9_method_2_code
def yX7_append : MethodName := ⟨RX7, "append", "(I)V"⟩
abbrev cX7_readInto : ByteArray := prog_9_method_3_code
def yX7_readInto : MethodName := ⟨RX7, "readInto", "(LStairManners$House;)I"⟩
abbrev cX7_takes : ByteArray := prog_9_method_4_code
def yX7_takes : MethodName := ⟨RX7, "takes", "(LStairManners$House;)Z"⟩
abbrev cX7_begins : ByteArray := prog_9_method_5_code
def yX7_begins : MethodName := ⟨RX7, "begins", "(LStairManners$House;)Z"⟩
abbrev cX7_takesNumber : ByteArray := prog_9_method_6_code
def yX7_takesNumber : MethodName := ⟨RX7, "takesNumber", "(LStairManners$House;)Z"⟩
abbrev cX7_numbersOf : ByteArray := prog_9_method_7_code
def yX7_numbersOf : MethodName := ⟨RX7, "numbersOf", "(I)I"⟩
abbrev cX7_lowest : ByteArray := prog_9_method_8_code
def yX7_lowest : MethodName := ⟨RX7, "lowest", "()I"⟩
abbrev cX7_highest : ByteArray := prog_9_method_9_code
def yX7_highest : MethodName := ⟨RX7, "highest", "(I)I"⟩
abbrev cX7_settle : ByteArray := prog_9_method_10_code
def yX7_settle : MethodName := ⟨RX7, "settle", "(LStairManners$House;)V"⟩
abbrev cX7_settleKinds : ByteArray := prog_9_method_11_code
def yX7_settleKinds : MethodName := ⟨RX7, "settleKinds", "(LStairManners$Stand;)V"⟩
abbrev cX7_nextToken : ByteArray := prog_9_method_12_code
def yX7_nextToken : MethodName := ⟨RX7, "nextToken", "()V"⟩
abbrev cX7_behindRun : ByteArray := prog_9_method_13_code
def yX7_behindRun : MethodName := ⟨RX7, "behindRun", "(III)I"⟩
abbrev cX7_byteAt : ByteArray := prog_9_method_14_code
def yX7_byteAt : MethodName := ⟨RX7, "byteAt", "(I)I"⟩
abbrev cX7_numberRead : ByteArray := prog_9_method_15_code
def yX7_numberRead : MethodName := ⟨RX7, "numberRead", "()I"⟩
abbrev cX7_wordRead : ByteArray := prog_9_method_16_code
def yX7_wordRead : MethodName := ⟨RX7, "wordRead", "()I"⟩
abbrev cX7_reads : ByteArray := prog_9_method_17_code
def yX7_reads : MethodName := ⟨RX7, "reads", "(Ljava/lang/String;)Z"⟩
abbrev cX7_nameOf : ByteArray := prog_9_method_18_code
def yX7_nameOf : MethodName := ⟨RX7, "nameOf", "(I)Ljava/lang/String;"⟩
def RX8 : String := "StairManners"
def TX8 : u_T := fun k => match k with
  | 0 => ("StairManners", "now", "LStairManners$House;", true)
  | 1 => ("StairManners", "draft", "LStairManners$House;", true)
  | 2 => ("StairManners", "images", "[LStairManners$House;", true)
  | 3 => ("StairManners", "kept", "[Z", true)
  | 4 => ("StairManners", "text", "LStairManners$Text;", true)
  | 5 => ("StairManners", "route", "LStairManners$Plan;", true)
  | 6 => ("StairManners", "above", "J", false)
  | 7 => ("StairManners", "below", "J", false)
  | 8 => ("StairManners", "bads", "I", false)
  | 9 => ("StairManners", "nos", "I", false)
  | _ => ("StairManners", "fulls", "I", false)
def tyX8 : Nat → FieldType := fun k => match k with
  | 0 => .object "StairManners$House"
  | 1 => .object "StairManners$House"
  | 2 => .array (.object "StairManners$House")
  | 3 => .array .boolean
  | 4 => .object "StairManners$Text"
  | 5 => .object "StairManners$Plan"
  | 6 => .long
  | 7 => .long
  | 8 => .int
  | 9 => .int
  | _ => .int
abbrev wsX80 : List Cond := u_ws RX8 TX8 11
theorem nmX8 : ∀ a, a < 11 → ∀ b, b < 11 → a ≠ b → (TX8 a).2.1 ≠ (TX8 b).2.1 := by decide +kernel
theorem tyX8_ok : ∀ k, k < 11 → parseFieldDescriptor (TX8 k).2.2.1 = some (tyX8 k) := by decide +kernel
abbrev cX8_init : ByteArray := prog_1_method_1_code
def yX8_init : MethodName := ⟨RX8, "<init>", "()V"⟩
abbrev cX8_house : ByteArray := prog_1_method_2_code
def yX8_house : MethodName := ⟨RX8, "house", "()I"⟩
abbrev cX8_one : ByteArray := prog_1_method_3_code
def yX8_one : MethodName := ⟨RX8, "one", "(II)I"⟩
abbrev cX8_type : ByteArray := prog_1_method_4_code
def yX8_type : MethodName := ⟨RX8, "type", "(I)I"⟩
abbrev cX8_clear : ByteArray := prog_1_method_5_code
def yX8_clear : MethodName := ⟨RX8, "clear", "()I"⟩
abbrev cX8_read : ByteArray := prog_1_method_6_code
def yX8_read : MethodName := ⟨RX8, "read", "()I"⟩
abbrev cX8_meets : ByteArray := prog_1_method_7_code
def yX8_meets : MethodName := ⟨RX8, "meets", "(II)I"⟩
abbrev cX8_goes : ByteArray := prog_1_method_8_code
def yX8_goes : MethodName := ⟨RX8, "goes", "(II)I"⟩
abbrev cX8_waits : ByteArray := prog_1_method_9_code
def yX8_waits : MethodName := ⟨RX8, "waits", "(I)I"⟩
abbrev cX8_carpet : ByteArray := prog_1_method_10_code
def yX8_carpet : MethodName := ⟨RX8, "carpet", "(II)I"⟩
abbrev cX8_step : ByteArray := prog_1_method_11_code
def yX8_step : MethodName := ⟨RX8, "step", "(II)I"⟩
abbrev cX8_undo : ByteArray := prog_1_method_12_code
def yX8_undo : MethodName := ⟨RX8, "undo", "()I"⟩
abbrev cX8_of : ByteArray := prog_1_method_13_code
def yX8_of : MethodName := ⟨RX8, "of", "(II)I"⟩
abbrev cX8_about : ByteArray := prog_1_method_14_code
def yX8_about : MethodName := ⟨RX8, "about", "(II)I"⟩
abbrev cX8_asks : ByteArray := prog_1_method_15_code
def yX8_asks : MethodName := ⟨RX8, "asks", "(III)I"⟩
abbrev cX8_word : ByteArray := prog_1_method_16_code
def yX8_word : MethodName := ⟨RX8, "word", "(I)I"⟩
abbrev cX8_high : ByteArray := prog_1_method_17_code
def yX8_high : MethodName := ⟨RX8, "high", "(I)I"⟩
abbrev cX8_hears : ByteArray := prog_1_method_18_code
def yX8_hears : MethodName := ⟨RX8, "hears", "(II)I"⟩
abbrev cX8_then : ByteArray := prog_1_method_19_code
def yX8_then : MethodName := ⟨RX8, "then", "(II)I"⟩
abbrev cX8_plan : ByteArray := prog_1_method_20_code
def yX8_plan : MethodName := ⟨RX8, "plan", "(III)I"⟩
abbrev cX8_seen : ByteArray := prog_1_method_21_code
def yX8_seen : MethodName := ⟨RX8, "seen", "(III)I"⟩
abbrev cX8_may : ByteArray := prog_1_method_22_code
def yX8_may : MethodName := ⟨RX8, "may", "(II)I"⟩
abbrev cX8_note : ByteArray := prog_1_method_23_code
def yX8_note : MethodName := ⟨RX8, "note", "(IIII)I"⟩
abbrev cX8_mark : ByteArray := prog_1_method_24_code
def yX8_mark : MethodName := ⟨RX8, "mark", "(IIII)I"⟩
abbrev cX8_forget : ByteArray := prog_1_method_25_code
def yX8_forget : MethodName := ⟨RX8, "forget", "(I)I"⟩
abbrev cX8_is : ByteArray := prog_1_method_26_code
def yX8_is : MethodName := ⟨RX8, "is", "(I)I"⟩
abbrev cX8_look : ByteArray := prog_1_method_27_code
def yX8_look : MethodName := ⟨RX8, "look", "(I)I"⟩
abbrev cX8_kinds : ByteArray := prog_1_method_28_code
def yX8_kinds : MethodName := ⟨RX8, "kinds", "(I)I"⟩
abbrev cX8_ask : ByteArray := prog_1_method_29_code
def yX8_ask : MethodName := ⟨RX8, "ask", "(I)I"⟩
abbrev cX8_hosts : ByteArray := prog_1_method_30_code
def yX8_hosts : MethodName := ⟨RX8, "hosts", "(IIII)I"⟩
abbrev cX8_slips : ByteArray := prog_1_method_31_code
def yX8_slips : MethodName := ⟨RX8, "slips", "(III)I"⟩
abbrev cX8_evenings : ByteArray := prog_1_method_32_code
def yX8_evenings : MethodName := ⟨RX8, "evenings", "(II)I"⟩
abbrev cX8_part : ByteArray := prog_1_method_33_code
def yX8_part : MethodName := ⟨RX8, "part", "(I)J"⟩
abbrev cX8_image : ByteArray := prog_1_method_34_code
def yX8_image : MethodName := ⟨RX8, "image", "(I)I"⟩
abbrev cX8_from : ByteArray := prog_1_method_35_code
def yX8_from : MethodName := ⟨RX8, "from", "(I)I"⟩
abbrev cX8_status : ByteArray := prog_1_method_36_code
def yX8_status : MethodName := ⟨RX8, "status", "(I)I"⟩
abbrev cX8_count : ByteArray := prog_1_method_37_code
def yX8_count : MethodName := ⟨RX8, "count", "(I)I"⟩
abbrev cX8_digest : ByteArray := prog_1_method_38_code
def yX8_digest : MethodName := ⟨RX8, "digest", "()J"⟩
abbrev cX8_within : ByteArray := prog_1_method_39_code
def yX8_within : MethodName := ⟨RX8, "within", "(III)Z"⟩
abbrev cX8_isStep : ByteArray := prog_1_method_40_code
def yX8_isStep : MethodName := ⟨RX8, "isStep", "(I)Z"⟩
abbrev cX8_refuse : ByteArray := prog_1_method_41_code
def yX8_refuse : MethodName := ⟨RX8, "refuse", "(I)I"⟩
abbrev cX8_refusePlace : ByteArray := prog_1_method_42_code
def yX8_refusePlace : MethodName := ⟨RX8, "refusePlace", "()I"⟩
abbrev cX8_add : ByteArray := prog_1_method_43_code
def yX8_add : MethodName := ⟨RX8, "add", "(LStairManners$Rows;IIII)I"⟩
abbrev cX8_counted : ByteArray := prog_1_method_44_code
def yX8_counted : MethodName := ⟨RX8, "counted", "(I)I"⟩
abbrev cX8_oddsOf : ByteArray := prog_1_method_45_code
def yX8_oddsOf : MethodName := ⟨RX8, "oddsOf", "(III)J"⟩
abbrev cX8_keepFraction : ByteArray := prog_1_method_46_code
def yX8_keepFraction : MethodName := ⟨RX8, "keepFraction", "(JJ)V"⟩
abbrev cX8_greatestDivisor : ByteArray := prog_1_method_47_code
def yX8_greatestDivisor : MethodName := ⟨RX8, "greatestDivisor", "(JJ)J"⟩
def RX9 : String := "StairMannersModel"
def TX9 : u_T := fun k => match k with
  | 0 => ("StairMannersModel", "refused", "[I", true)
  | 1 => ("StairMannersModel", "many", "I", false)
  | 2 => ("StairMannersModel", "minute", "I", false)
  | 3 => ("StairMannersModel", "carpets", "I", false)
  | 4 => ("StairMannersModel", "seenMany", "I", false)
  | 5 => ("StairMannersModel", "noteMany", "I", false)
  | 6 => ("StairMannersModel", "markMany", "I", false)
  | 7 => ("StairMannersModel", "kinds", "[I", true)
  | 8 => ("StairMannersModel", "weights", "[I", true)
  | 9 => ("StairMannersModel", "places", "[I", true)
  | 10 => ("StairMannersModel", "known", "[I", true)
  | 11 => ("StairMannersModel", "steps", "[I", true)
  | 12 => ("StairMannersModel", "seenOnes", "[I", true)
  | 13 => ("StairMannersModel", "noted", "[I", true)
  | 14 => ("StairMannersModel", "marked", "[I", true)
  | 15 => ("StairMannersModel", "text", "[I", true)
  | 16 => ("StairMannersModel", "typed", "I", false)
  | 17 => ("StairMannersModel", "readAt", "I", false)
  | 18 => ("StairMannersModel", "readNumber", "I", false)
  | 19 => ("StairMannersModel", "before", "[I", true)
  | 20 => ("StairMannersModel", "ahead", "[I", true)
  | 21 => ("StairMannersModel", "undoMany", "I", false)
  | 22 => ("StairMannersModel", "aside", "[I", true)
  | 23 => ("StairMannersModel", "may", "[J", true)
  | 24 => ("StairMannersModel", "open", "[I", true)
  | 25 => ("StairMannersModel", "above", "J", false)
  | 26 => ("StairMannersModel", "below", "J", false)
  | 27 => ("StairMannersModel", "images", "[I", true)
  | 28 => ("StairMannersModel", "isKept", "[I", true)
  | _ => ("StairMannersModel", "h0", "J", false)
def tyX9 : Nat → FieldType := fun k => match k with
  | 0 => .array .int
  | 1 => .int
  | 2 => .int
  | 3 => .int
  | 4 => .int
  | 5 => .int
  | 6 => .int
  | 7 => .array .int
  | 8 => .array .int
  | 9 => .array .int
  | 10 => .array .int
  | 11 => .array .int
  | 12 => .array .int
  | 13 => .array .int
  | 14 => .array .int
  | 15 => .array .int
  | 16 => .int
  | 17 => .int
  | 18 => .int
  | 19 => .array .int
  | 20 => .array .int
  | 21 => .int
  | 22 => .array .int
  | 23 => .array .long
  | 24 => .array .int
  | 25 => .long
  | 26 => .long
  | 27 => .array .int
  | 28 => .array .int
  | _ => .long
abbrev wsX90 : List Cond := u_ws RX9 TX9 30
theorem nmX9 : ∀ a, a < 30 → ∀ b, b < 30 → a ≠ b → (TX9 a).2.1 ≠ (TX9 b).2.1 := by decide +kernel
theorem tyX9_ok : ∀ k, k < 30 → parseFieldDescriptor (TX9 k).2.2.1 = some (tyX9 k) := by decide +kernel
abbrev cX9_bad : ByteArray := prog_11_method_1_code
def yX9_bad : MethodName := ⟨RX9, "bad", "()I"⟩
abbrev cX9_no : ByteArray := prog_11_method_3_code
def yX9_no : MethodName := ⟨RX9, "no", "()I"⟩
abbrev cX9_full : ByteArray := prog_11_method_4_code
def yX9_full : MethodName := ⟨RX9, "full", "()I"⟩
abbrev cX9_in : ByteArray := prog_11_method_5_code
def yX9_in : MethodName := ⟨RX9, "in", "(III)Z"⟩
abbrev cX9_has : ByteArray := prog_11_method_6_code
def yX9_has : MethodName := ⟨RX9, "has", "(II)Z"⟩
abbrev cX9_lesser : ByteArray := prog_11_method_7_code
def yX9_lesser : MethodName := ⟨RX9, "lesser", "(II)I"⟩
abbrev cX9_greater : ByteArray := prog_11_method_8_code
def yX9_greater : MethodName := ⟨RX9, "greater", "(II)I"⟩
abbrev cX9_bits : ByteArray := prog_11_method_9_code
def yX9_bits : MethodName := ⟨RX9, "bits", "(I)I"⟩
abbrev cX9_init : ByteArray := prog_11_method_10_code
def yX9_init : MethodName := ⟨RX9, "<init>", "()V"⟩
abbrev cX9_begin : ByteArray := prog_11_method_11_code
def yX9_begin : MethodName := ⟨RX9, "begin", "()V"⟩
abbrev cX9_isOne : ByteArray := prog_11_method_12_code
def yX9_isOne : MethodName := ⟨RX9, "isOne", "(I)Z"⟩
abbrev cX9_isStep : ByteArray := prog_11_method_13_code
def yX9_isStep : MethodName := ⟨RX9, "isStep", "(I)Z"⟩
abbrev cX9_house : ByteArray := prog_11_method_14_code
def yX9_house : MethodName := ⟨RX9, "house", "()I"⟩
abbrev cX9_addOne : ByteArray := prog_11_method_15_code
def yX9_addOne : MethodName := ⟨RX9, "addOne", "(II)I"⟩
abbrev cX9_one : ByteArray := prog_11_method_16_code
def yX9_one : MethodName := ⟨RX9, "one", "(II)I"⟩
abbrev cX9_type : ByteArray := prog_11_method_17_code
def yX9_type : MethodName := ⟨RX9, "type", "(I)I"⟩
abbrev cX9_clear : ByteArray := prog_11_method_18_code
def yX9_clear : MethodName := ⟨RX9, "clear", "()I"⟩
abbrev cX9_here : ByteArray := prog_11_method_19_code
def yX9_here : MethodName := ⟨RX9, "here", "()I"⟩
abbrev cX9_skip : ByteArray := prog_11_method_20_code
def yX9_skip : MethodName := ⟨RX9, "skip", "()V"⟩
abbrev cX9_isLetter : ByteArray := prog_11_method_21_code
def yX9_isLetter : MethodName := ⟨RX9, "isLetter", "(I)Z"⟩
abbrev cX9_isFigure : ByteArray := prog_11_method_22_code
def yX9_isFigure : MethodName := ⟨RX9, "isFigure", "(I)Z"⟩
abbrev cX9_wordSize : ByteArray := prog_11_method_23_code
def yX9_wordSize : MethodName := ⟨RX9, "wordSize", "()I"⟩
abbrev cX9_letter : ByteArray := prog_11_method_24_code
def yX9_letter : MethodName := ⟨RX9, "letter", "(I)I"⟩
abbrev cX9_wordHere : ByteArray := prog_11_method_25_code
def yX9_wordHere : MethodName := ⟨RX9, "wordHere", "()I"⟩
abbrev cX9_number : ByteArray := prog_11_method_26_code
def yX9_number : MethodName := ⟨RX9, "number", "(II)Z"⟩
abbrev cX9_ends : ByteArray := prog_11_method_27_code
def yX9_ends : MethodName := ⟨RX9, "ends", "()Z"⟩
abbrev cX9_readsOne : ByteArray := prog_11_method_28_code
def yX9_readsOne : MethodName := ⟨RX9, "readsOne", "()Z"⟩
abbrev cX9_readsWhere : ByteArray := prog_11_method_29_code
def yX9_readsWhere : MethodName := ⟨RX9, "readsWhere", "(Z)Z"⟩
abbrev cX9_readsCarpet : ByteArray := prog_11_method_30_code
def yX9_readsCarpet : MethodName := ⟨RX9, "readsCarpet", "()Z"⟩
abbrev cX9_readsMinutes : ByteArray := prog_11_method_31_code
def yX9_readsMinutes : MethodName := ⟨RX9, "readsMinutes", "()Z"⟩
abbrev cX9_readsItem : ByteArray := prog_11_method_32_code
def yX9_readsItem : MethodName := ⟨RX9, "readsItem", "()Z"⟩
abbrev cX9_readsFirst : ByteArray := prog_11_method_33_code
def yX9_readsFirst : MethodName := ⟨RX9, "readsFirst", "()Z"⟩
abbrev cX9_readsHouse : ByteArray := prog_11_method_34_code
def yX9_readsHouse : MethodName := ⟨RX9, "readsHouse", "()I"⟩
abbrev cX9_read : ByteArray := prog_11_method_35_code
def yX9_read : MethodName := ⟨RX9, "read", "()I"⟩
abbrev cX9_wantsBy : ByteArray := prog_11_method_36_code
def yX9_wantsBy : MethodName := ⟨RX9, "wantsBy", "(III)I"⟩
abbrev cX9_worthBy : ByteArray := prog_11_method_37_code
def yX9_worthBy : MethodName := ⟨RX9, "worthBy", "(III)I"⟩
abbrev cX9_wants : ByteArray := prog_11_method_38_code
def yX9_wants : MethodName := ⟨RX9, "wants", "(III)I"⟩
abbrev cX9_worth : ByteArray := prog_11_method_39_code
def yX9_worth : MethodName := ⟨RX9, "worth", "(II)I"⟩
abbrev cX9_wordFor : ByteArray := prog_11_method_40_code
def yX9_wordFor : MethodName := ⟨RX9, "wordFor", "(III)I"⟩
abbrev cX9_dayMinute : ByteArray := prog_11_method_41_code
def yX9_dayMinute : MethodName := ⟨RX9, "dayMinute", "()I"⟩
abbrev cX9_mayMeet : ByteArray := prog_11_method_42_code
def yX9_mayMeet : MethodName := ⟨RX9, "mayMeet", "(III)Z"⟩
abbrev cX9_knownAll : ByteArray := prog_11_method_43_code
def yX9_knownAll : MethodName := ⟨RX9, "knownAll", "()I"⟩
abbrev cX9_passes : ByteArray := prog_11_method_44_code
def yX9_passes : MethodName := ⟨RX9, "passes", "()V"⟩
abbrev cX9_goesOn : ByteArray := prog_11_method_45_code
def yX9_goesOn : MethodName := ⟨RX9, "goesOn", "(I)V"⟩
abbrev cX9_lays : ByteArray := prog_11_method_46_code
def yX9_lays : MethodName := ⟨RX9, "lays", "([II)V"⟩
abbrev cX9_takes : ByteArray := prog_11_method_47_code
def yX9_takes : MethodName := ⟨RX9, "takes", "([II)V"⟩
abbrev cX9_notes : ByteArray := prog_11_method_48_code
def yX9_notes : MethodName := ⟨RX9, "notes", "()V"⟩
abbrev cX9_learns : ByteArray := prog_11_method_49_code
def yX9_learns : MethodName := ⟨RX9, "learns", "(II)V"⟩
abbrev cX9_meets : ByteArray := prog_11_method_50_code
def yX9_meets : MethodName := ⟨RX9, "meets", "(II)I"⟩
abbrev cX9_tenBad : ByteArray := prog_11_method_51_code
def yX9_tenBad : MethodName := ⟨RX9, "tenBad", "()I"⟩
abbrev cX9_goes : ByteArray := prog_11_method_52_code
def yX9_goes : MethodName := ⟨RX9, "goes", "(II)I"⟩
abbrev cX9_waits : ByteArray := prog_11_method_53_code
def yX9_waits : MethodName := ⟨RX9, "waits", "(I)I"⟩
abbrev cX9_carpet : ByteArray := prog_11_method_54_code
def yX9_carpet : MethodName := ⟨RX9, "carpet", "(II)I"⟩
abbrev cX9_whoKnows : ByteArray := prog_11_method_55_code
def yX9_whoKnows : MethodName := ⟨RX9, "whoKnows", "(I)I"⟩
abbrev cX9_step : ByteArray := prog_11_method_56_code
def yX9_step : MethodName := ⟨RX9, "step", "(II)I"⟩
abbrev cX9_undo : ByteArray := prog_11_method_57_code
def yX9_undo : MethodName := ⟨RX9, "undo", "()I"⟩
abbrev cX9_of : ByteArray := prog_11_method_58_code
def yX9_of : MethodName := ⟨RX9, "of", "(II)I"⟩
abbrev cX9_about : ByteArray := prog_11_method_59_code
def yX9_about : MethodName := ⟨RX9, "about", "(II)I"⟩
abbrev cX9_asks : ByteArray := prog_11_method_60_code
def yX9_asks : MethodName := ⟨RX9, "asks", "(III)I"⟩
abbrev cX9_word : ByteArray := prog_11_method_61_code
def yX9_word : MethodName := ⟨RX9, "word", "(I)I"⟩
abbrev cX9_high : ByteArray := prog_11_method_62_code
def yX9_high : MethodName := ⟨RX9, "high", "(I)I"⟩
abbrev cX9_hears : ByteArray := prog_11_method_63_code
def yX9_hears : MethodName := ⟨RX9, "hears", "(II)I"⟩
abbrev cX9_then : ByteArray := prog_11_method_64_code
def yX9_then : MethodName := ⟨RX9, "then", "(II)I"⟩
abbrev cX9_isMay : ByteArray := prog_11_method_65_code
def yX9_isMay : MethodName := ⟨RX9, "isMay", "(II)Z"⟩
abbrev cX9_setMay : ByteArray := prog_11_method_66_code
def yX9_setMay : MethodName := ⟨RX9, "setMay", "(I)V"⟩
abbrev cX9_does : ByteArray := prog_11_method_67_code
def yX9_does : MethodName := ⟨RX9, "does", "(II)I"⟩
abbrev cX9_plan : ByteArray := prog_11_method_68_code
def yX9_plan : MethodName := ⟨RX9, "plan", "(III)I"⟩
abbrev cX9_seen : ByteArray := prog_11_method_69_code
def yX9_seen : MethodName := ⟨RX9, "seen", "(III)I"⟩
abbrev cX9_mayKnow : ByteArray := prog_11_method_70_code
def yX9_mayKnow : MethodName := ⟨RX9, "mayKnow", "(II)Z"⟩
abbrev cX9_may : ByteArray := prog_11_method_71_code
def yX9_may : MethodName := ⟨RX9, "may", "(II)I"⟩
abbrev cX9_note : ByteArray := prog_11_method_72_code
def yX9_note : MethodName := ⟨RX9, "note", "(IIII)I"⟩
abbrev cX9_mark : ByteArray := prog_11_method_73_code
def yX9_mark : MethodName := ⟨RX9, "mark", "(IIII)I"⟩
abbrev cX9_forget : ByteArray := prog_11_method_74_code
def yX9_forget : MethodName := ⟨RX9, "forget", "(I)I"⟩
abbrev cX9_stepKinds : ByteArray := prog_11_method_75_code
def yX9_stepKinds : MethodName := ⟨RX9, "stepKinds", "(I)I"⟩
abbrev cX9_peopleKinds : ByteArray := prog_11_method_76_code
def yX9_peopleKinds : MethodName := ⟨RX9, "peopleKinds", "(I)I"⟩
abbrev cX9_is : ByteArray := prog_11_method_77_code
def yX9_is : MethodName := ⟨RX9, "is", "(I)I"⟩
abbrev cX9_kinds : ByteArray := prog_11_method_78_code
def yX9_kinds : MethodName := ⟨RX9, "kinds", "(I)I"⟩
abbrev cX9_alike : ByteArray := prog_11_method_79_code
def yX9_alike : MethodName := ⟨RX9, "alike", "(IZII)I"⟩
abbrev cX9_look : ByteArray := prog_11_method_80_code
def yX9_look : MethodName := ⟨RX9, "look", "(I)I"⟩
abbrev cX9_ask : ByteArray := prog_11_method_81_code
def yX9_ask : MethodName := ⟨RX9, "ask", "(I)I"⟩
abbrev cX9_gets : ByteArray := prog_11_method_82_code
def yX9_gets : MethodName := ⟨RX9, "gets", "(IIIIII)I"⟩
abbrev cX9_hosts : ByteArray := prog_11_method_83_code
def yX9_hosts : MethodName := ⟨RX9, "hosts", "(IIII)I"⟩
abbrev cX9_lay : ByteArray := prog_11_method_84_code
def yX9_lay : MethodName := ⟨RX9, "lay", "(JJ)V"⟩
abbrev cX9_slips : ByteArray := prog_11_method_85_code
def yX9_slips : MethodName := ⟨RX9, "slips", "(III)I"⟩
abbrev cX9_evenings : ByteArray := prog_11_method_86_code
def yX9_evenings : MethodName := ⟨RX9, "evenings", "(II)I"⟩
abbrev cX9_part : ByteArray := prog_11_method_87_code
def yX9_part : MethodName := ⟨RX9, "part", "(I)J"⟩
abbrev cX9_layAll : ByteArray := prog_11_method_88_code
def yX9_layAll : MethodName := ⟨RX9, "layAll", "([II)V"⟩
abbrev cX9_takeAll : ByteArray := prog_11_method_89_code
def yX9_takeAll : MethodName := ⟨RX9, "takeAll", "([II)V"⟩
abbrev cX9_image : ByteArray := prog_11_method_90_code
def yX9_image : MethodName := ⟨RX9, "image", "(I)I"⟩
abbrev cX9_from : ByteArray := prog_11_method_91_code
def yX9_from : MethodName := ⟨RX9, "from", "(I)I"⟩
abbrev cX9_status : ByteArray := prog_11_method_92_code
def yX9_status : MethodName := ⟨RX9, "status", "(I)I"⟩
abbrev cX9_topMany : ByteArray := prog_11_method_93_code
def yX9_topMany : MethodName := ⟨RX9, "topMany", "()I"⟩
abbrev cX9_countOf : ByteArray := prog_11_method_94_code
def yX9_countOf : MethodName := ⟨RX9, "countOf", "(I)I"⟩
abbrev cX9_count : ByteArray := prog_11_method_95_code
def yX9_count : MethodName := ⟨RX9, "count", "(I)I"⟩
abbrev cX9_mix : ByteArray := prog_11_method_96_code
def yX9_mix : MethodName := ⟨RX9, "mix", "(J)V"⟩
abbrev cX9_digest : ByteArray := prog_11_method_97_code
def yX9_digest : MethodName := ⟨RX9, "digest", "()J"⟩
def RJ6 : String := "java/lang/Integer"
abbrev cJ6_bitCount_0f7a4 : ByteArray := prog_12_method_49_code
def yJ6_bitCount_0f7a4 : MethodName := ⟨RJ6, "bitCount", "(I)I"⟩
def RJ9 : String := "java/lang/Math"
abbrev cJ9_max_7cf53 : ByteArray := prog_13_method_65_code
def yJ9_max_7cf53 : MethodName := ⟨RJ9, "max", "(II)I"⟩
abbrev cJ9_min_7cf53 : ByteArray := prog_13_method_69_code
def yJ9_min_7cf53 : MethodName := ⟨RJ9, "min", "(II)I"⟩
def RJ0 : String := "java/lang/String"
abbrev cJ0_length_8abf5 : ByteArray := prog_14_method_54_code
def yJ0_length_8abf5 : MethodName := ⟨RJ0, "length", "()I"⟩
abbrev cJ0_charAt_5068e : ByteArray := prog_14_method_56_code
def yJ0_charAt_5068e : MethodName := ⟨RJ0, "charAt", "(I)C"⟩
abbrev cJ0_coder_7d493 : ByteArray := prog_14_method_152_code
def yJ0_coder_7d493 : MethodName := ⟨RJ0, "coder", "()B"⟩
abbrev cJ0_isLatin1_aae02 : ByteArray := prog_14_method_154_code
def yJ0_isLatin1_aae02 : MethodName := ⟨RJ0, "isLatin1", "()Z"⟩
abbrev cJ0_checkIndex_df160 : ByteArray := prog_14_method_155_code
def yJ0_checkIndex_df160 : MethodName := ⟨RJ0, "checkIndex", "(II)V"⟩
def RJ1 : String := "java/lang/StringLatin1"
abbrev cJ1_charAt_3b067 : ByteArray := prog_15_method_2_code
def yJ1_charAt_3b067 : MethodName := ⟨RJ1, "charAt", "([BI)C"⟩
def RJ2 : String := "java/lang/StringUTF16"
abbrev cJ2_getChar_3b067 : ByteArray := prog_16_method_5_code
def yJ2_getChar_3b067 : MethodName := ⟨RJ2, "getChar", "([BI)C"⟩
abbrev cJ2_length_9d52b : ByteArray := prog_16_method_6_code
def yJ2_length_9d52b : MethodName := ⟨RJ2, "length", "([B)I"⟩
abbrev cJ2_charAt_3b067 : ByteArray := prog_16_method_83_code
def yJ2_charAt_3b067 : MethodName := ⟨RJ2, "charAt", "([BI)C"⟩
abbrev cJ2_checkIndex_2214a : ByteArray := prog_16_method_91_code
def yJ2_checkIndex_2214a : MethodName := ⟨RJ2, "checkIndex", "(I[B)V"⟩
def RJ3 : String := "jdk/internal/util/Preconditions"
abbrev cJ3_checkIndex_8e157 : ByteArray := prog_17_method_11_code
def yJ3_checkIndex_8e157 : MethodName := ⟨RJ3, "checkIndex", "(IILjava/util/function/BiFunction;)I"⟩
def RL : String := "StairMannersLaw"
abbrev cL_law : ByteArray := code
def yL_law : MethodName := ⟨RL, "law", "([I)Z"⟩
abbrev vwCl : List vw_C := [(RX0, TX0, 11), (RX2, TX2, 0), (RX3, TX3, 5), (RX4, TX4, 2), (RX5, TX5, 5), (RX6, TX6, 0), (RX7, TX7, 10), (RX8, TX8, 11), (RX9, TX9, 30)]
set_option maxRecDepth 20000 in
theorem inX0 : ∀ w ∈ wsX00, w ∈ lw_tbl := by decide +kernel
set_option maxRecDepth 20000 in
theorem inX1 : ∀ w ∈ wsX10, w ∈ lw_tbl := by decide +kernel
set_option maxRecDepth 20000 in
theorem inX2 : ∀ w ∈ wsX20, w ∈ lw_tbl := by decide +kernel
set_option maxRecDepth 20000 in
theorem inX3 : ∀ w ∈ wsX30, w ∈ lw_tbl := by decide +kernel
set_option maxRecDepth 20000 in
theorem inX4 : ∀ w ∈ wsX40, w ∈ lw_tbl := by decide +kernel
set_option maxRecDepth 20000 in
theorem inX5 : ∀ w ∈ wsX50, w ∈ lw_tbl := by decide +kernel
set_option maxRecDepth 20000 in
theorem inX6 : ∀ w ∈ wsX60, w ∈ lw_tbl := by decide +kernel
set_option maxRecDepth 20000 in
theorem inX7 : ∀ w ∈ wsX70, w ∈ lw_tbl := by decide +kernel
set_option maxRecDepth 20000 in
theorem inX8 : ∀ w ∈ wsX80, w ∈ lw_tbl := by decide +kernel
set_option maxRecDepth 20000 in
theorem inX9 : ∀ w ∈ wsX90, w ∈ lw_tbl := by decide +kernel
end
section
theorem dX0_init_0 : decode cX0_init 0 = .ok (.aload_n 0, 1) := by decide +kernel
theorem dX0_init_1 : decode cX0_init 1 = .ok (.invokespecial 3, 3) := by decide +kernel
theorem dX0_init_4 : decode cX0_init 4 = .ok (.aload_n 0, 1) := by decide +kernel
theorem dX0_init_5 : decode cX0_init 5 = .ok (.iconst 0, 1) := by decide +kernel
theorem dX0_init_6 : decode cX0_init 6 = .ok (.putfield 9, 3) := by decide +kernel
theorem dX0_init_9 : decode cX0_init 9 = .ok (.aload_n 0, 1) := by decide +kernel
theorem dX0_init_10 : decode cX0_init 10 = .ok (.bipush 6, 2) := by decide +kernel
theorem dX0_init_12 : decode cX0_init 12 = .ok (.newarray .int, 2) := by decide +kernel
theorem dX0_init_14 : decode cX0_init 14 = .ok (.putfield 15, 3) := by decide +kernel
theorem dX0_init_17 : decode cX0_init 17 = .ok (.aload_n 0, 1) := by decide +kernel
theorem dX0_init_18 : decode cX0_init 18 = .ok (.bipush 6, 2) := by decide +kernel
theorem dX0_init_20 : decode cX0_init 20 = .ok (.newarray .int, 2) := by decide +kernel
theorem dX0_init_22 : decode cX0_init 22 = .ok (.putfield 19, 3) := by decide +kernel
theorem dX0_init_25 : decode cX0_init 25 = .ok (.aload_n 0, 1) := by decide +kernel
theorem dX0_init_26 : decode cX0_init 26 = .ok (.new 22, 3) := by decide +kernel
theorem dX0_init_29 : decode cX0_init 29 = .ok (.dup, 1) := by decide +kernel
theorem dX0_init_30 : decode cX0_init 30 = .ok (.invokespecial 24, 3) := by decide +kernel
theorem dX0_init_33 : decode cX0_init 33 = .ok (.putfield 25, 3) := by decide +kernel
theorem dX0_init_36 : decode cX0_init 36 = .ok (.aload_n 0, 1) := by decide +kernel
theorem dX0_init_37 : decode cX0_init 37 = .ok (.bipush 8, 2) := by decide +kernel
theorem dX0_init_39 : decode cX0_init 39 = .ok (.anewarray 22, 3) := by decide +kernel
theorem dX0_init_42 : decode cX0_init 42 = .ok (.putfield 29, 3) := by decide +kernel
theorem dX0_init_45 : decode cX0_init 45 = .ok (.iconst 0, 1) := by decide +kernel
theorem dX0_init_46 : decode cX0_init 46 = .ok (.istore_n 1, 1) := by decide +kernel
theorem dX0_init_47 : decode cX0_init 47 = .ok (.iload_n 1, 1) := by decide +kernel
theorem dX0_init_48 : decode cX0_init 48 = .ok (.bipush 8, 2) := by decide +kernel
theorem dX0_init_50 : decode cX0_init 50 = .ok (.if_icmp .ge 22, 3) := by decide +kernel
theorem dX0_init_53 : decode cX0_init 53 = .ok (.aload_n 0, 1) := by decide +kernel
theorem dX0_init_54 : decode cX0_init 54 = .ok (.getfield 29, 3) := by decide +kernel
theorem dX0_init_57 : decode cX0_init 57 = .ok (.iload_n 1, 1) := by decide +kernel
theorem dX0_init_58 : decode cX0_init 58 = .ok (.new 22, 3) := by decide +kernel
theorem dX0_init_61 : decode cX0_init 61 = .ok (.dup, 1) := by decide +kernel
theorem dX0_init_62 : decode cX0_init 62 = .ok (.invokespecial 24, 3) := by decide +kernel
theorem dX0_init_65 : decode cX0_init 65 = .ok (.aastore, 1) := by decide +kernel
theorem dX0_init_66 : decode cX0_init 66 = .ok (.iinc 1 1, 3) := by decide +kernel
theorem dX0_init_69 : decode cX0_init 69 = .ok (.goto (-22), 3) := by decide +kernel
theorem dX0_init_72 : decode cX0_init 72 = .ok (.aload_n 0, 1) := by decide +kernel
theorem dX0_init_73 : decode cX0_init 73 = .ok (.iconst 0, 1) := by decide +kernel
theorem dX0_init_74 : decode cX0_init 74 = .ok (.putfield 33, 3) := by decide +kernel
theorem dX0_init_77 : decode cX0_init 77 = .ok (.aload_n 0, 1) := by decide +kernel
theorem dX0_init_78 : decode cX0_init 78 = .ok (.new 36, 3) := by decide +kernel
theorem dX0_init_81 : decode cX0_init 81 = .ok (.dup, 1) := by decide +kernel
theorem dX0_init_82 : decode cX0_init 82 = .ok (.invokespecial 38, 3) := by decide +kernel
theorem dX0_init_85 : decode cX0_init 85 = .ok (.putfield 39, 3) := by decide +kernel
theorem dX0_init_88 : decode cX0_init 88 = .ok (.aload_n 0, 1) := by decide +kernel
theorem dX0_init_89 : decode cX0_init 89 = .ok (.new 36, 3) := by decide +kernel
theorem dX0_init_92 : decode cX0_init 92 = .ok (.dup, 1) := by decide +kernel
theorem dX0_init_93 : decode cX0_init 93 = .ok (.invokespecial 38, 3) := by decide +kernel
theorem dX0_init_96 : decode cX0_init 96 = .ok (.putfield 43, 3) := by decide +kernel
theorem dX0_init_99 : decode cX0_init 99 = .ok (.aload_n 0, 1) := by decide +kernel
theorem dX0_init_100 : decode cX0_init 100 = .ok (.new 36, 3) := by decide +kernel
theorem dX0_init_103 : decode cX0_init 103 = .ok (.dup, 1) := by decide +kernel
theorem dX0_init_104 : decode cX0_init 104 = .ok (.invokespecial 38, 3) := by decide +kernel
theorem dX0_init_107 : decode cX0_init 107 = .ok (.putfield 46, 3) := by decide +kernel
theorem dX0_init_110 : decode cX0_init 110 = .ok (.aload_n 0, 1) := by decide +kernel
theorem dX0_init_111 : decode cX0_init 111 = .ok (.new 49, 3) := by decide +kernel
theorem dX0_init_114 : decode cX0_init 114 = .ok (.dup, 1) := by decide +kernel
theorem dX0_init_115 : decode cX0_init 115 = .ok (.invokespecial 51, 3) := by decide +kernel
theorem dX0_init_118 : decode cX0_init 118 = .ok (.putfield 52, 3) := by decide +kernel
theorem dX0_init_121 : decode cX0_init 121 = .ok (.aload_n 0, 1) := by decide +kernel
theorem dX0_init_122 : decode cX0_init 122 = .ok (.new 56, 3) := by decide +kernel
theorem dX0_init_125 : decode cX0_init 125 = .ok (.dup, 1) := by decide +kernel
theorem dX0_init_126 : decode cX0_init 126 = .ok (.invokespecial 58, 3) := by decide +kernel
theorem dX0_init_129 : decode cX0_init 129 = .ok (.putfield 59, 3) := by decide +kernel
theorem dX0_init_132 : decode cX0_init 132 = .ok (.return_, 1) := by decide +kernel
theorem dX0_empty_0 : decode cX0_empty 0 = .ok (.aload_n 0, 1) := by decide +kernel
theorem dX0_empty_1 : decode cX0_empty 1 = .ok (.iconst 0, 1) := by decide +kernel
theorem dX0_empty_2 : decode cX0_empty 2 = .ok (.putfield 9, 3) := by decide +kernel
theorem dX0_empty_5 : decode cX0_empty 5 = .ok (.aload_n 0, 1) := by decide +kernel
theorem dX0_empty_6 : decode cX0_empty 6 = .ok (.getfield 25, 3) := by decide +kernel
theorem dX0_empty_9 : decode cX0_empty 9 = .ok (.invokevirtual 63, 3) := by decide +kernel
theorem dX0_empty_12 : decode cX0_empty 12 = .ok (.aload_n 0, 1) := by decide +kernel
theorem dX0_empty_13 : decode cX0_empty 13 = .ok (.iconst 0, 1) := by decide +kernel
theorem dX0_empty_14 : decode cX0_empty 14 = .ok (.putfield 33, 3) := by decide +kernel
theorem dX0_empty_17 : decode cX0_empty 17 = .ok (.aload_n 0, 1) := by decide +kernel
theorem dX0_empty_18 : decode cX0_empty 18 = .ok (.getfield 39, 3) := by decide +kernel
theorem dX0_empty_21 : decode cX0_empty 21 = .ok (.invokevirtual 66, 3) := by decide +kernel
theorem dX0_empty_24 : decode cX0_empty 24 = .ok (.pop, 1) := by decide +kernel
theorem dX0_empty_25 : decode cX0_empty 25 = .ok (.aload_n 0, 1) := by decide +kernel
theorem dX0_empty_26 : decode cX0_empty 26 = .ok (.getfield 43, 3) := by decide +kernel
theorem dX0_empty_29 : decode cX0_empty 29 = .ok (.invokevirtual 66, 3) := by decide +kernel
theorem dX0_empty_32 : decode cX0_empty 32 = .ok (.pop, 1) := by decide +kernel
theorem dX0_empty_33 : decode cX0_empty 33 = .ok (.aload_n 0, 1) := by decide +kernel
theorem dX0_empty_34 : decode cX0_empty 34 = .ok (.getfield 46, 3) := by decide +kernel
theorem dX0_empty_37 : decode cX0_empty 37 = .ok (.invokevirtual 66, 3) := by decide +kernel
theorem dX0_empty_40 : decode cX0_empty 40 = .ok (.pop, 1) := by decide +kernel
theorem dX0_empty_41 : decode cX0_empty 41 = .ok (.return_, 1) := by decide +kernel
theorem dX0_copyPeople_0 : decode cX0_copyPeople 0 = .ok (.aload_n 0, 1) := by decide +kernel
theorem dX0_copyPeople_1 : decode cX0_copyPeople 1 = .ok (.aload_n 1, 1) := by decide +kernel
theorem dX0_copyPeople_2 : decode cX0_copyPeople 2 = .ok (.getfield 9, 3) := by decide +kernel
theorem dX0_copyPeople_5 : decode cX0_copyPeople 5 = .ok (.putfield 9, 3) := by decide +kernel
theorem dX0_copyPeople_8 : decode cX0_copyPeople 8 = .ok (.iconst 0, 1) := by decide +kernel
theorem dX0_copyPeople_9 : decode cX0_copyPeople 9 = .ok (.istore_n 2, 1) := by decide +kernel
theorem dX0_copyPeople_10 : decode cX0_copyPeople 10 = .ok (.iload_n 2, 1) := by decide +kernel
theorem dX0_copyPeople_11 : decode cX0_copyPeople 11 = .ok (.bipush 6, 2) := by decide +kernel
theorem dX0_copyPeople_13 : decode cX0_copyPeople 13 = .ok (.if_icmp .ge 33, 3) := by decide +kernel
theorem dX0_copyPeople_16 : decode cX0_copyPeople 16 = .ok (.aload_n 0, 1) := by decide +kernel
theorem dX0_copyPeople_17 : decode cX0_copyPeople 17 = .ok (.getfield 15, 3) := by decide +kernel
theorem dX0_copyPeople_20 : decode cX0_copyPeople 20 = .ok (.iload_n 2, 1) := by decide +kernel
theorem dX0_copyPeople_21 : decode cX0_copyPeople 21 = .ok (.aload_n 1, 1) := by decide +kernel
theorem dX0_copyPeople_22 : decode cX0_copyPeople 22 = .ok (.getfield 15, 3) := by decide +kernel
theorem dX0_copyPeople_25 : decode cX0_copyPeople 25 = .ok (.iload_n 2, 1) := by decide +kernel
theorem dX0_copyPeople_26 : decode cX0_copyPeople 26 = .ok (.iaload, 1) := by decide +kernel
theorem dX0_copyPeople_27 : decode cX0_copyPeople 27 = .ok (.iastore, 1) := by decide +kernel
theorem dX0_copyPeople_28 : decode cX0_copyPeople 28 = .ok (.aload_n 0, 1) := by decide +kernel
theorem dX0_copyPeople_29 : decode cX0_copyPeople 29 = .ok (.getfield 19, 3) := by decide +kernel
theorem dX0_copyPeople_32 : decode cX0_copyPeople 32 = .ok (.iload_n 2, 1) := by decide +kernel
theorem dX0_copyPeople_33 : decode cX0_copyPeople 33 = .ok (.aload_n 1, 1) := by decide +kernel
theorem dX0_copyPeople_34 : decode cX0_copyPeople 34 = .ok (.getfield 19, 3) := by decide +kernel
theorem dX0_copyPeople_37 : decode cX0_copyPeople 37 = .ok (.iload_n 2, 1) := by decide +kernel
theorem dX0_copyPeople_38 : decode cX0_copyPeople 38 = .ok (.iaload, 1) := by decide +kernel
theorem dX0_copyPeople_39 : decode cX0_copyPeople 39 = .ok (.iastore, 1) := by decide +kernel
theorem dX0_copyPeople_40 : decode cX0_copyPeople 40 = .ok (.iinc 2 1, 3) := by decide +kernel
theorem dX0_copyPeople_43 : decode cX0_copyPeople 43 = .ok (.goto (-33), 3) := by decide +kernel
theorem dX0_copyPeople_46 : decode cX0_copyPeople 46 = .ok (.aload_n 0, 1) := by decide +kernel
theorem dX0_copyPeople_47 : decode cX0_copyPeople 47 = .ok (.getfield 25, 3) := by decide +kernel
theorem dX0_copyPeople_50 : decode cX0_copyPeople 50 = .ok (.aload_n 1, 1) := by decide +kernel
theorem dX0_copyPeople_51 : decode cX0_copyPeople 51 = .ok (.getfield 25, 3) := by decide +kernel
theorem dX0_copyPeople_54 : decode cX0_copyPeople 54 = .ok (.invokevirtual 70, 3) := by decide +kernel
theorem dX0_copyPeople_57 : decode cX0_copyPeople 57 = .ok (.return_, 1) := by decide +kernel
theorem dX0_copyFrom_0 : decode cX0_copyFrom 0 = .ok (.aload_n 0, 1) := by decide +kernel
theorem dX0_copyFrom_1 : decode cX0_copyFrom 1 = .ok (.aload_n 1, 1) := by decide +kernel
theorem dX0_copyFrom_2 : decode cX0_copyFrom 2 = .ok (.invokevirtual 74, 3) := by decide +kernel
theorem dX0_copyFrom_5 : decode cX0_copyFrom 5 = .ok (.aload_n 0, 1) := by decide +kernel
theorem dX0_copyFrom_6 : decode cX0_copyFrom 6 = .ok (.aload_n 1, 1) := by decide +kernel
theorem dX0_copyFrom_7 : decode cX0_copyFrom 7 = .ok (.getfield 33, 3) := by decide +kernel
theorem dX0_copyFrom_10 : decode cX0_copyFrom 10 = .ok (.putfield 33, 3) := by decide +kernel
theorem dX0_copyFrom_13 : decode cX0_copyFrom 13 = .ok (.iconst 0, 1) := by decide +kernel
theorem dX0_copyFrom_14 : decode cX0_copyFrom 14 = .ok (.istore_n 2, 1) := by decide +kernel
theorem dX0_copyFrom_15 : decode cX0_copyFrom 15 = .ok (.iload_n 2, 1) := by decide +kernel
theorem dX0_copyFrom_16 : decode cX0_copyFrom 16 = .ok (.bipush 8, 2) := by decide +kernel
theorem dX0_copyFrom_18 : decode cX0_copyFrom 18 = .ok (.if_icmp .ge 24, 3) := by decide +kernel
theorem dX0_copyFrom_21 : decode cX0_copyFrom 21 = .ok (.aload_n 0, 1) := by decide +kernel
theorem dX0_copyFrom_22 : decode cX0_copyFrom 22 = .ok (.getfield 29, 3) := by decide +kernel
theorem dX0_copyFrom_25 : decode cX0_copyFrom 25 = .ok (.iload_n 2, 1) := by decide +kernel
theorem dX0_copyFrom_26 : decode cX0_copyFrom 26 = .ok (.aaload, 1) := by decide +kernel
theorem dX0_copyFrom_27 : decode cX0_copyFrom 27 = .ok (.aload_n 1, 1) := by decide +kernel
theorem dX0_copyFrom_28 : decode cX0_copyFrom 28 = .ok (.getfield 29, 3) := by decide +kernel
theorem dX0_copyFrom_31 : decode cX0_copyFrom 31 = .ok (.iload_n 2, 1) := by decide +kernel
theorem dX0_copyFrom_32 : decode cX0_copyFrom 32 = .ok (.aaload, 1) := by decide +kernel
theorem dX0_copyFrom_33 : decode cX0_copyFrom 33 = .ok (.invokevirtual 70, 3) := by decide +kernel
theorem dX0_copyFrom_36 : decode cX0_copyFrom 36 = .ok (.iinc 2 1, 3) := by decide +kernel
theorem dX0_copyFrom_39 : decode cX0_copyFrom 39 = .ok (.goto (-24), 3) := by decide +kernel
theorem dX0_copyFrom_42 : decode cX0_copyFrom 42 = .ok (.aload_n 0, 1) := by decide +kernel
theorem dX0_copyFrom_43 : decode cX0_copyFrom 43 = .ok (.getfield 39, 3) := by decide +kernel
theorem dX0_copyFrom_46 : decode cX0_copyFrom 46 = .ok (.aload_n 1, 1) := by decide +kernel
theorem dX0_copyFrom_47 : decode cX0_copyFrom 47 = .ok (.getfield 39, 3) := by decide +kernel
theorem dX0_copyFrom_50 : decode cX0_copyFrom 50 = .ok (.invokevirtual 78, 3) := by decide +kernel
theorem dX0_copyFrom_53 : decode cX0_copyFrom 53 = .ok (.aload_n 0, 1) := by decide +kernel
theorem dX0_copyFrom_54 : decode cX0_copyFrom 54 = .ok (.getfield 43, 3) := by decide +kernel
theorem dX0_copyFrom_57 : decode cX0_copyFrom 57 = .ok (.aload_n 1, 1) := by decide +kernel
theorem dX0_copyFrom_58 : decode cX0_copyFrom 58 = .ok (.getfield 43, 3) := by decide +kernel
theorem dX0_copyFrom_61 : decode cX0_copyFrom 61 = .ok (.invokevirtual 78, 3) := by decide +kernel
theorem dX0_copyFrom_64 : decode cX0_copyFrom 64 = .ok (.aload_n 0, 1) := by decide +kernel
theorem dX0_copyFrom_65 : decode cX0_copyFrom 65 = .ok (.getfield 46, 3) := by decide +kernel
theorem dX0_copyFrom_68 : decode cX0_copyFrom 68 = .ok (.aload_n 1, 1) := by decide +kernel
theorem dX0_copyFrom_69 : decode cX0_copyFrom 69 = .ok (.getfield 46, 3) := by decide +kernel
theorem dX0_copyFrom_72 : decode cX0_copyFrom 72 = .ok (.invokevirtual 78, 3) := by decide +kernel
theorem dX0_copyFrom_75 : decode cX0_copyFrom 75 = .ok (.return_, 1) := by decide +kernel
theorem dX0_hasPerson_0 : decode cX0_hasPerson 0 = .ok (.iload_n 1, 1) := by decide +kernel
theorem dX0_hasPerson_1 : decode cX0_hasPerson 1 = .ok (.iconst 0, 1) := by decide +kernel
theorem dX0_hasPerson_2 : decode cX0_hasPerson 2 = .ok (.aload_n 0, 1) := by decide +kernel
theorem dX0_hasPerson_3 : decode cX0_hasPerson 3 = .ok (.getfield 9, 3) := by decide +kernel
theorem dX0_hasPerson_6 : decode cX0_hasPerson 6 = .ok (.iconst 1, 1) := by decide +kernel
theorem dX0_hasPerson_7 : decode cX0_hasPerson 7 = .ok (.isub, 1) := by decide +kernel
theorem dX0_hasPerson_8 : decode cX0_hasPerson 8 = .ok (.invokestatic 81, 3) := by decide +kernel
theorem dX0_hasPerson_11 : decode cX0_hasPerson 11 = .ok (.ifCond .eq 13, 3) := by decide +kernel
theorem dX0_hasPerson_14 : decode cX0_hasPerson 14 = .ok (.iload_n 1, 1) := by decide +kernel
theorem dX0_hasPerson_15 : decode cX0_hasPerson 15 = .ok (.bipush 6, 2) := by decide +kernel
theorem dX0_hasPerson_17 : decode cX0_hasPerson 17 = .ok (.if_icmp .ge 7, 3) := by decide +kernel
theorem dX0_hasPerson_20 : decode cX0_hasPerson 20 = .ok (.iconst 1, 1) := by decide +kernel
theorem dX0_hasPerson_21 : decode cX0_hasPerson 21 = .ok (.goto 4, 3) := by decide +kernel
theorem dX0_hasPerson_24 : decode cX0_hasPerson 24 = .ok (.iconst 0, 1) := by decide +kernel
theorem dX0_hasPerson_25 : decode cX0_hasPerson 25 = .ok (.ireturn, 1) := by decide +kernel
theorem dX0_welcome_0 : decode cX0_welcome 0 = .ok (.aload_n 0, 1) := by decide +kernel
theorem dX0_welcome_1 : decode cX0_welcome 1 = .ok (.getfield 9, 3) := by decide +kernel
theorem dX0_welcome_4 : decode cX0_welcome 4 = .ok (.iconst 0, 1) := by decide +kernel
theorem dX0_welcome_5 : decode cX0_welcome 5 = .ok (.iconst 5, 1) := by decide +kernel
theorem dX0_welcome_6 : decode cX0_welcome 6 = .ok (.invokestatic 81, 3) := by decide +kernel
theorem dX0_welcome_9 : decode cX0_welcome 9 = .ok (.ifCond .eq 38, 3) := by decide +kernel
theorem dX0_welcome_12 : decode cX0_welcome 12 = .ok (.aload_n 0, 1) := by decide +kernel
theorem dX0_welcome_13 : decode cX0_welcome 13 = .ok (.getfield 15, 3) := by decide +kernel
theorem dX0_welcome_16 : decode cX0_welcome 16 = .ok (.aload_n 0, 1) := by decide +kernel
theorem dX0_welcome_17 : decode cX0_welcome 17 = .ok (.getfield 9, 3) := by decide +kernel
theorem dX0_welcome_20 : decode cX0_welcome 20 = .ok (.iload_n 1, 1) := by decide +kernel
theorem dX0_welcome_21 : decode cX0_welcome 21 = .ok (.iastore, 1) := by decide +kernel
theorem dX0_welcome_22 : decode cX0_welcome 22 = .ok (.aload_n 0, 1) := by decide +kernel
theorem dX0_welcome_23 : decode cX0_welcome 23 = .ok (.getfield 19, 3) := by decide +kernel
theorem dX0_welcome_26 : decode cX0_welcome 26 = .ok (.aload_n 0, 1) := by decide +kernel
theorem dX0_welcome_27 : decode cX0_welcome 27 = .ok (.getfield 9, 3) := by decide +kernel
theorem dX0_welcome_30 : decode cX0_welcome 30 = .ok (.iload_n 2, 1) := by decide +kernel
theorem dX0_welcome_31 : decode cX0_welcome 31 = .ok (.iastore, 1) := by decide +kernel
theorem dX0_welcome_32 : decode cX0_welcome 32 = .ok (.aload_n 0, 1) := by decide +kernel
theorem dX0_welcome_33 : decode cX0_welcome 33 = .ok (.dup, 1) := by decide +kernel
theorem dX0_welcome_34 : decode cX0_welcome 34 = .ok (.getfield 9, 3) := by decide +kernel
theorem dX0_welcome_37 : decode cX0_welcome 37 = .ok (.iconst 1, 1) := by decide +kernel
theorem dX0_welcome_38 : decode cX0_welcome 38 = .ok (.iadd, 1) := by decide +kernel
theorem dX0_welcome_39 : decode cX0_welcome 39 = .ok (.putfield 9, 3) := by decide +kernel
theorem dX0_welcome_42 : decode cX0_welcome 42 = .ok (.aload_n 0, 1) := by decide +kernel
theorem dX0_welcome_43 : decode cX0_welcome 43 = .ok (.iconst 0, 1) := by decide +kernel
theorem dX0_welcome_44 : decode cX0_welcome 44 = .ok (.putfield 33, 3) := by decide +kernel
theorem dX0_welcome_47 : decode cX0_welcome 47 = .ok (.return_, 1) := by decide +kernel
theorem dX0_remember_0 : decode cX0_remember 0 = .ok (.aload_n 0, 1) := by decide +kernel
theorem dX0_remember_1 : decode cX0_remember 1 = .ok (.getfield 33, 3) := by decide +kernel
theorem dX0_remember_4 : decode cX0_remember 4 = .ok (.bipush 8, 2) := by decide +kernel
theorem dX0_remember_6 : decode cX0_remember 6 = .ok (.if_icmp .lt 7, 3) := by decide +kernel
theorem dX0_remember_9 : decode cX0_remember 9 = .ok (.aload_n 0, 1) := by decide +kernel
theorem dX0_remember_10 : decode cX0_remember 10 = .ok (.invokevirtual 85, 3) := by decide +kernel
theorem dX0_remember_13 : decode cX0_remember 13 = .ok (.aload_n 0, 1) := by decide +kernel
theorem dX0_remember_14 : decode cX0_remember 14 = .ok (.getfield 33, 3) := by decide +kernel
theorem dX0_remember_17 : decode cX0_remember 17 = .ok (.iconst 0, 1) := by decide +kernel
theorem dX0_remember_18 : decode cX0_remember 18 = .ok (.bipush 7, 2) := by decide +kernel
theorem dX0_remember_20 : decode cX0_remember 20 = .ok (.invokestatic 81, 3) := by decide +kernel
theorem dX0_remember_23 : decode cX0_remember 23 = .ok (.ifCond .eq 29, 3) := by decide +kernel
theorem dX0_remember_26 : decode cX0_remember 26 = .ok (.aload_n 0, 1) := by decide +kernel
theorem dX0_remember_27 : decode cX0_remember 27 = .ok (.getfield 29, 3) := by decide +kernel
theorem dX0_remember_30 : decode cX0_remember 30 = .ok (.aload_n 0, 1) := by decide +kernel
theorem dX0_remember_31 : decode cX0_remember 31 = .ok (.getfield 33, 3) := by decide +kernel
theorem dX0_remember_34 : decode cX0_remember 34 = .ok (.aaload, 1) := by decide +kernel
theorem dX0_remember_35 : decode cX0_remember 35 = .ok (.aload_n 0, 1) := by decide +kernel
theorem dX0_remember_36 : decode cX0_remember 36 = .ok (.getfield 25, 3) := by decide +kernel
theorem dX0_remember_39 : decode cX0_remember 39 = .ok (.invokevirtual 70, 3) := by decide +kernel
theorem dX0_remember_42 : decode cX0_remember 42 = .ok (.aload_n 0, 1) := by decide +kernel
theorem dX0_remember_43 : decode cX0_remember 43 = .ok (.dup, 1) := by decide +kernel
theorem dX0_remember_44 : decode cX0_remember 44 = .ok (.getfield 33, 3) := by decide +kernel
theorem dX0_remember_47 : decode cX0_remember 47 = .ok (.iconst 1, 1) := by decide +kernel
theorem dX0_remember_48 : decode cX0_remember 48 = .ok (.iadd, 1) := by decide +kernel
theorem dX0_remember_49 : decode cX0_remember 49 = .ok (.putfield 33, 3) := by decide +kernel
theorem dX0_remember_52 : decode cX0_remember 52 = .ok (.return_, 1) := by decide +kernel
theorem dX0_dropOldest_0 : decode cX0_dropOldest 0 = .ok (.aload_n 0, 1) := by decide +kernel
theorem dX0_dropOldest_1 : decode cX0_dropOldest 1 = .ok (.getfield 29, 3) := by decide +kernel
theorem dX0_dropOldest_4 : decode cX0_dropOldest 4 = .ok (.iconst 0, 1) := by decide +kernel
theorem dX0_dropOldest_5 : decode cX0_dropOldest 5 = .ok (.aaload, 1) := by decide +kernel
theorem dX0_dropOldest_6 : decode cX0_dropOldest 6 = .ok (.astore_n 1, 1) := by decide +kernel
theorem dX0_dropOldest_7 : decode cX0_dropOldest 7 = .ok (.iconst 1, 1) := by decide +kernel
theorem dX0_dropOldest_8 : decode cX0_dropOldest 8 = .ok (.istore_n 2, 1) := by decide +kernel
theorem dX0_dropOldest_9 : decode cX0_dropOldest 9 = .ok (.iload_n 2, 1) := by decide +kernel
theorem dX0_dropOldest_10 : decode cX0_dropOldest 10 = .ok (.bipush 8, 2) := by decide +kernel
theorem dX0_dropOldest_12 : decode cX0_dropOldest 12 = .ok (.if_icmp .ge 23, 3) := by decide +kernel
theorem dX0_dropOldest_15 : decode cX0_dropOldest 15 = .ok (.aload_n 0, 1) := by decide +kernel
theorem dX0_dropOldest_16 : decode cX0_dropOldest 16 = .ok (.getfield 29, 3) := by decide +kernel
theorem dX0_dropOldest_19 : decode cX0_dropOldest 19 = .ok (.iload_n 2, 1) := by decide +kernel
theorem dX0_dropOldest_20 : decode cX0_dropOldest 20 = .ok (.iconst 1, 1) := by decide +kernel
theorem dX0_dropOldest_21 : decode cX0_dropOldest 21 = .ok (.isub, 1) := by decide +kernel
theorem dX0_dropOldest_22 : decode cX0_dropOldest 22 = .ok (.aload_n 0, 1) := by decide +kernel
theorem dX0_dropOldest_23 : decode cX0_dropOldest 23 = .ok (.getfield 29, 3) := by decide +kernel
theorem dX0_dropOldest_26 : decode cX0_dropOldest 26 = .ok (.iload_n 2, 1) := by decide +kernel
theorem dX0_dropOldest_27 : decode cX0_dropOldest 27 = .ok (.aaload, 1) := by decide +kernel
theorem dX0_dropOldest_28 : decode cX0_dropOldest 28 = .ok (.aastore, 1) := by decide +kernel
theorem dX0_dropOldest_29 : decode cX0_dropOldest 29 = .ok (.iinc 2 1, 3) := by decide +kernel
theorem dX0_dropOldest_32 : decode cX0_dropOldest 32 = .ok (.goto (-23), 3) := by decide +kernel
theorem dX0_dropOldest_35 : decode cX0_dropOldest 35 = .ok (.aload_n 0, 1) := by decide +kernel
theorem dX0_dropOldest_36 : decode cX0_dropOldest 36 = .ok (.getfield 29, 3) := by decide +kernel
theorem dX0_dropOldest_39 : decode cX0_dropOldest 39 = .ok (.bipush 7, 2) := by decide +kernel
theorem dX0_dropOldest_41 : decode cX0_dropOldest 41 = .ok (.aload_n 1, 1) := by decide +kernel
theorem dX0_dropOldest_42 : decode cX0_dropOldest 42 = .ok (.aastore, 1) := by decide +kernel
theorem dX0_dropOldest_43 : decode cX0_dropOldest 43 = .ok (.aload_n 0, 1) := by decide +kernel
theorem dX0_dropOldest_44 : decode cX0_dropOldest 44 = .ok (.bipush 7, 2) := by decide +kernel
theorem dX0_dropOldest_46 : decode cX0_dropOldest 46 = .ok (.putfield 33, 3) := by decide +kernel
theorem dX0_dropOldest_49 : decode cX0_dropOldest 49 = .ok (.return_, 1) := by decide +kernel
theorem dX0_goBack_0 : decode cX0_goBack 0 = .ok (.aload_n 0, 1) := by decide +kernel
theorem dX0_goBack_1 : decode cX0_goBack 1 = .ok (.getfield 33, 3) := by decide +kernel
theorem dX0_goBack_4 : decode cX0_goBack 4 = .ok (.iconst 1, 1) := by decide +kernel
theorem dX0_goBack_5 : decode cX0_goBack 5 = .ok (.bipush 8, 2) := by decide +kernel
theorem dX0_goBack_7 : decode cX0_goBack 7 = .ok (.invokestatic 81, 3) := by decide +kernel
theorem dX0_goBack_10 : decode cX0_goBack 10 = .ok (.ifCond .eq 29, 3) := by decide +kernel
theorem dX0_goBack_13 : decode cX0_goBack 13 = .ok (.aload_n 0, 1) := by decide +kernel
theorem dX0_goBack_14 : decode cX0_goBack 14 = .ok (.dup, 1) := by decide +kernel
theorem dX0_goBack_15 : decode cX0_goBack 15 = .ok (.getfield 33, 3) := by decide +kernel
theorem dX0_goBack_18 : decode cX0_goBack 18 = .ok (.iconst 1, 1) := by decide +kernel
theorem dX0_goBack_19 : decode cX0_goBack 19 = .ok (.isub, 1) := by decide +kernel
theorem dX0_goBack_20 : decode cX0_goBack 20 = .ok (.putfield 33, 3) := by decide +kernel
theorem dX0_goBack_23 : decode cX0_goBack 23 = .ok (.aload_n 0, 1) := by decide +kernel
theorem dX0_goBack_24 : decode cX0_goBack 24 = .ok (.getfield 25, 3) := by decide +kernel
theorem dX0_goBack_27 : decode cX0_goBack 27 = .ok (.aload_n 0, 1) := by decide +kernel
theorem dX0_goBack_28 : decode cX0_goBack 28 = .ok (.getfield 29, 3) := by decide +kernel
theorem dX0_goBack_31 : decode cX0_goBack 31 = .ok (.aload_n 0, 1) := by decide +kernel
theorem dX0_goBack_32 : decode cX0_goBack 32 = .ok (.getfield 33, 3) := by decide +kernel
theorem dX0_goBack_35 : decode cX0_goBack 35 = .ok (.aaload, 1) := by decide +kernel
theorem dX0_goBack_36 : decode cX0_goBack 36 = .ok (.invokevirtual 70, 3) := by decide +kernel
theorem dX0_goBack_39 : decode cX0_goBack 39 = .ok (.return_, 1) := by decide +kernel
theorem dX0_worth_0 : decode cX0_worth 0 = .ok (.aload_n 0, 1) := by decide +kernel
theorem dX0_worth_1 : decode cX0_worth 1 = .ok (.getfield 59, 3) := by decide +kernel
theorem dX0_worth_4 : decode cX0_worth 4 = .ok (.aload_n 0, 1) := by decide +kernel
theorem dX0_worth_5 : decode cX0_worth 5 = .ok (.getfield 15, 3) := by decide +kernel
theorem dX0_worth_8 : decode cX0_worth 8 = .ok (.iload_n 1, 1) := by decide +kernel
theorem dX0_worth_9 : decode cX0_worth 9 = .ok (.iaload, 1) := by decide +kernel
theorem dX0_worth_10 : decode cX0_worth 10 = .ok (.aload_n 0, 1) := by decide +kernel
theorem dX0_worth_11 : decode cX0_worth 11 = .ok (.getfield 25, 3) := by decide +kernel
theorem dX0_worth_14 : decode cX0_worth 14 = .ok (.getfield 88, 3) := by decide +kernel
theorem dX0_worth_17 : decode cX0_worth 17 = .ok (.iload_n 1, 1) := by decide +kernel
theorem dX0_worth_18 : decode cX0_worth 18 = .ok (.iaload, 1) := by decide +kernel
theorem dX0_worth_19 : decode cX0_worth 19 = .ok (.iload_n 2, 1) := by decide +kernel
theorem dX0_worth_20 : decode cX0_worth 20 = .ok (.bipush 24, 2) := by decide +kernel
theorem dX0_worth_22 : decode cX0_worth 22 = .ok (.irem, 1) := by decide +kernel
theorem dX0_worth_23 : decode cX0_worth 23 = .ok (.invokevirtual 91, 3) := by decide +kernel
theorem dX0_worth_26 : decode cX0_worth 26 = .ok (.ireturn, 1) := by decide +kernel
theorem dX0_wanted_0 : decode cX0_wanted 0 = .ok (.aload_n 0, 1) := by decide +kernel
theorem dX0_wanted_1 : decode cX0_wanted 1 = .ok (.getfield 52, 3) := by decide +kernel
theorem dX0_wanted_4 : decode cX0_wanted 4 = .ok (.aload_n 0, 1) := by decide +kernel
theorem dX0_wanted_5 : decode cX0_wanted 5 = .ok (.getfield 25, 3) := by decide +kernel
theorem dX0_wanted_8 : decode cX0_wanted 8 = .ok (.getfield 95, 3) := by decide +kernel
theorem dX0_wanted_11 : decode cX0_wanted 11 = .ok (.iload_n 2, 1) := by decide +kernel
theorem dX0_wanted_12 : decode cX0_wanted 12 = .ok (.iaload, 1) := by decide +kernel
theorem dX0_wanted_13 : decode cX0_wanted 13 = .ok (.aload_n 0, 1) := by decide +kernel
theorem dX0_wanted_14 : decode cX0_wanted 14 = .ok (.getfield 19, 3) := by decide +kernel
theorem dX0_wanted_17 : decode cX0_wanted 17 = .ok (.iload_n 1, 1) := by decide +kernel
theorem dX0_wanted_18 : decode cX0_wanted 18 = .ok (.iaload, 1) := by decide +kernel
theorem dX0_wanted_19 : decode cX0_wanted 19 = .ok (.iload_n 3, 1) := by decide +kernel
theorem dX0_wanted_20 : decode cX0_wanted 20 = .ok (.bipush 24, 2) := by decide +kernel
theorem dX0_wanted_22 : decode cX0_wanted 22 = .ok (.irem, 1) := by decide +kernel
theorem dX0_wanted_23 : decode cX0_wanted 23 = .ok (.invokevirtual 98, 3) := by decide +kernel
theorem dX0_wanted_26 : decode cX0_wanted 26 = .ok (.ireturn, 1) := by decide +kernel
theorem dX0_othersWhoKnow_0 : decode cX0_othersWhoKnow 0 = .ok (.aload_n 0, 1) := by decide +kernel
theorem dX0_othersWhoKnow_1 : decode cX0_othersWhoKnow 1 = .ok (.getfield 25, 3) := by decide +kernel
theorem dX0_othersWhoKnow_4 : decode cX0_othersWhoKnow 4 = .ok (.iload_n 2, 1) := by decide +kernel
theorem dX0_othersWhoKnow_5 : decode cX0_othersWhoKnow 5 = .ok (.invokevirtual 99, 3) := by decide +kernel
theorem dX0_othersWhoKnow_8 : decode cX0_othersWhoKnow 8 = .ok (.iconst 1, 1) := by decide +kernel
theorem dX0_othersWhoKnow_9 : decode cX0_othersWhoKnow 9 = .ok (.iload_n 1, 1) := by decide +kernel
theorem dX0_othersWhoKnow_10 : decode cX0_othersWhoKnow 10 = .ok (.ishl, 1) := by decide +kernel
theorem dX0_othersWhoKnow_11 : decode cX0_othersWhoKnow 11 = .ok (.iconst (-1), 1) := by decide +kernel
theorem dX0_othersWhoKnow_12 : decode cX0_othersWhoKnow 12 = .ok (.ixor, 1) := by decide +kernel
theorem dX0_othersWhoKnow_13 : decode cX0_othersWhoKnow 13 = .ok (.iand, 1) := by decide +kernel
theorem dX0_othersWhoKnow_14 : decode cX0_othersWhoKnow 14 = .ok (.ireturn, 1) := by decide +kernel
theorem dX0_wordOf_0 : decode cX0_wordOf 0 = .ok (.iconst 0, 1) := by decide +kernel
theorem dX0_wordOf_1 : decode cX0_wordOf 1 = .ok (.istore_n 3, 1) := by decide +kernel
theorem dX0_wordOf_2 : decode cX0_wordOf 2 = .ok (.iconst 0, 1) := by decide +kernel
theorem dX0_wordOf_3 : decode cX0_wordOf 3 = .ok (.istore 4, 2) := by decide +kernel
theorem dX0_wordOf_5 : decode cX0_wordOf 5 = .ok (.iload 4, 2) := by decide +kernel
theorem dX0_wordOf_7 : decode cX0_wordOf 7 = .ok (.aload_n 0, 1) := by decide +kernel
theorem dX0_wordOf_8 : decode cX0_wordOf 8 = .ok (.getfield 9, 3) := by decide +kernel
theorem dX0_wordOf_11 : decode cX0_wordOf 11 = .ok (.if_icmp .ge 36, 3) := by decide +kernel
theorem dX0_wordOf_14 : decode cX0_wordOf 14 = .ok (.iload 4, 2) := by decide +kernel
theorem dX0_wordOf_16 : decode cX0_wordOf 16 = .ok (.bipush 6, 2) := by decide +kernel
theorem dX0_wordOf_18 : decode cX0_wordOf 18 = .ok (.if_icmp .ge 29, 3) := by decide +kernel
theorem dX0_wordOf_21 : decode cX0_wordOf 21 = .ok (.iload_n 1, 1) := by decide +kernel
theorem dX0_wordOf_22 : decode cX0_wordOf 22 = .ok (.iload 4, 2) := by decide +kernel
theorem dX0_wordOf_24 : decode cX0_wordOf 24 = .ok (.ishr, 1) := by decide +kernel
theorem dX0_wordOf_25 : decode cX0_wordOf 25 = .ok (.iconst 1, 1) := by decide +kernel
theorem dX0_wordOf_26 : decode cX0_wordOf 26 = .ok (.iand, 1) := by decide +kernel
theorem dX0_wordOf_27 : decode cX0_wordOf 27 = .ok (.iconst 1, 1) := by decide +kernel
theorem dX0_wordOf_28 : decode cX0_wordOf 28 = .ok (.if_icmp .ne 13, 3) := by decide +kernel
theorem dX0_wordOf_31 : decode cX0_wordOf 31 = .ok (.iload_n 3, 1) := by decide +kernel
theorem dX0_wordOf_32 : decode cX0_wordOf 32 = .ok (.aload_n 0, 1) := by decide +kernel
theorem dX0_wordOf_33 : decode cX0_wordOf 33 = .ok (.iload 4, 2) := by decide +kernel
theorem dX0_wordOf_35 : decode cX0_wordOf 35 = .ok (.iload_n 2, 1) := by decide +kernel
theorem dX0_wordOf_36 : decode cX0_wordOf 36 = .ok (.invokevirtual 103, 3) := by decide +kernel
theorem dX0_wordOf_39 : decode cX0_wordOf 39 = .ok (.iadd, 1) := by decide +kernel
theorem dX0_wordOf_40 : decode cX0_wordOf 40 = .ok (.istore_n 3, 1) := by decide +kernel
theorem dX0_wordOf_41 : decode cX0_wordOf 41 = .ok (.iinc 4 1, 3) := by decide +kernel
theorem dX0_wordOf_44 : decode cX0_wordOf 44 = .ok (.goto (-39), 3) := by decide +kernel
theorem dX0_wordOf_47 : decode cX0_wordOf 47 = .ok (.iload_n 3, 1) := by decide +kernel
theorem dX0_wordOf_48 : decode cX0_wordOf 48 = .ok (.ireturn, 1) := by decide +kernel
theorem dX0_couldMeet_0 : decode cX0_couldMeet 0 = .ok (.aload_n 0, 1) := by decide +kernel
theorem dX0_couldMeet_1 : decode cX0_couldMeet 1 = .ok (.getfield 25, 3) := by decide +kernel
theorem dX0_couldMeet_4 : decode cX0_couldMeet 4 = .ok (.iload_n 1, 1) := by decide +kernel
theorem dX0_couldMeet_5 : decode cX0_couldMeet 5 = .ok (.iload_n 2, 1) := by decide +kernel
theorem dX0_couldMeet_6 : decode cX0_couldMeet 6 = .ok (.invokevirtual 107, 3) := by decide +kernel
theorem dX0_couldMeet_9 : decode cX0_couldMeet 9 = .ok (.ifCond .ne 21, 3) := by decide +kernel
theorem dX0_couldMeet_12 : decode cX0_couldMeet 12 = .ok (.aload_n 0, 1) := by decide +kernel
theorem dX0_couldMeet_13 : decode cX0_couldMeet 13 = .ok (.iload_n 3, 1) := by decide +kernel
theorem dX0_couldMeet_14 : decode cX0_couldMeet 14 = .ok (.iload 4, 2) := by decide +kernel
theorem dX0_couldMeet_16 : decode cX0_couldMeet 16 = .ok (.invokevirtual 111, 3) := by decide +kernel
theorem dX0_couldMeet_19 : decode cX0_couldMeet 19 = .ok (.aload_n 0, 1) := by decide +kernel
theorem dX0_couldMeet_20 : decode cX0_couldMeet 20 = .ok (.iload_n 1, 1) := by decide +kernel
theorem dX0_couldMeet_21 : decode cX0_couldMeet 21 = .ok (.iload_n 2, 1) := by decide +kernel
theorem dX0_couldMeet_22 : decode cX0_couldMeet 22 = .ok (.iload 4, 2) := by decide +kernel
theorem dX0_couldMeet_24 : decode cX0_couldMeet 24 = .ok (.invokevirtual 114, 3) := by decide +kernel
theorem dX0_couldMeet_27 : decode cX0_couldMeet 27 = .ok (.if_icmp .lt 7, 3) := by decide +kernel
theorem dX0_couldMeet_30 : decode cX0_couldMeet 30 = .ok (.iconst 1, 1) := by decide +kernel
theorem dX0_couldMeet_31 : decode cX0_couldMeet 31 = .ok (.goto 4, 3) := by decide +kernel
theorem dX0_couldMeet_34 : decode cX0_couldMeet 34 = .ok (.iconst 0, 1) := by decide +kernel
theorem dX0_couldMeet_35 : decode cX0_couldMeet 35 = .ok (.ireturn, 1) := by decide +kernel
theorem dX0_introduce_0 : decode cX0_introduce 0 = .ok (.aload_n 0, 1) := by decide +kernel
theorem dX0_introduce_1 : decode cX0_introduce 1 = .ok (.iload_n 1, 1) := by decide +kernel
theorem dX0_introduce_2 : decode cX0_introduce 2 = .ok (.iload_n 2, 1) := by decide +kernel
theorem dX0_introduce_3 : decode cX0_introduce 3 = .ok (.aload_n 0, 1) := by decide +kernel
theorem dX0_introduce_4 : decode cX0_introduce 4 = .ok (.iload_n 1, 1) := by decide +kernel
theorem dX0_introduce_5 : decode cX0_introduce 5 = .ok (.iload_n 2, 1) := by decide +kernel
theorem dX0_introduce_6 : decode cX0_introduce 6 = .ok (.invokevirtual 117, 3) := by decide +kernel
theorem dX0_introduce_9 : decode cX0_introduce 9 = .ok (.aload_n 0, 1) := by decide +kernel
theorem dX0_introduce_10 : decode cX0_introduce 10 = .ok (.getfield 25, 3) := by decide +kernel
theorem dX0_introduce_13 : decode cX0_introduce 13 = .ok (.getfield 120, 3) := by decide +kernel
theorem dX0_introduce_16 : decode cX0_introduce 16 = .ok (.invokevirtual 123, 3) := by decide +kernel
theorem dX0_introduce_19 : decode cX0_introduce 19 = .ok (.ifCond .eq 12, 3) := by decide +kernel
theorem dX0_introduce_22 : decode cX0_introduce 22 = .ok (.aload_n 0, 1) := by decide +kernel
theorem dX0_introduce_23 : decode cX0_introduce 23 = .ok (.getfield 25, 3) := by decide +kernel
theorem dX0_introduce_26 : decode cX0_introduce 26 = .ok (.iload_n 1, 1) := by decide +kernel
theorem dX0_introduce_27 : decode cX0_introduce 27 = .ok (.iload_n 2, 1) := by decide +kernel
theorem dX0_introduce_28 : decode cX0_introduce 28 = .ok (.invokevirtual 127, 3) := by decide +kernel
theorem dX0_introduce_31 : decode cX0_introduce 31 = .ok (.aload_n 0, 1) := by decide +kernel
theorem dX0_introduce_32 : decode cX0_introduce 32 = .ok (.getfield 25, 3) := by decide +kernel
theorem dX0_introduce_35 : decode cX0_introduce 35 = .ok (.invokevirtual 131, 3) := by decide +kernel
theorem dX0_introduce_38 : decode cX0_introduce 38 = .ok (.return_, 1) := by decide +kernel
theorem dX0_meetable_0 : decode cX0_meetable 0 = .ok (.iconst 0, 1) := by decide +kernel
theorem dX0_meetable_1 : decode cX0_meetable 1 = .ok (.istore 4, 2) := by decide +kernel
theorem dX0_meetable_3 : decode cX0_meetable 3 = .ok (.iconst 0, 1) := by decide +kernel
theorem dX0_meetable_4 : decode cX0_meetable 4 = .ok (.istore 5, 2) := by decide +kernel
theorem dX0_meetable_6 : decode cX0_meetable 6 = .ok (.iload 5, 2) := by decide +kernel
theorem dX0_meetable_8 : decode cX0_meetable 8 = .ok (.bipush 8, 2) := by decide +kernel
theorem dX0_meetable_10 : decode cX0_meetable 10 = .ok (.if_icmp .ge 46, 3) := by decide +kernel
theorem dX0_meetable_13 : decode cX0_meetable 13 = .ok (.iload_n 2, 1) := by decide +kernel
theorem dX0_meetable_14 : decode cX0_meetable 14 = .ok (.iload 5, 2) := by decide +kernel
theorem dX0_meetable_16 : decode cX0_meetable 16 = .ok (.ishr, 1) := by decide +kernel
theorem dX0_meetable_17 : decode cX0_meetable 17 = .ok (.iconst 1, 1) := by decide +kernel
theorem dX0_meetable_18 : decode cX0_meetable 18 = .ok (.iand, 1) := by decide +kernel
theorem dX0_meetable_19 : decode cX0_meetable 19 = .ok (.iconst 1, 1) := by decide +kernel
theorem dX0_meetable_20 : decode cX0_meetable 20 = .ok (.if_icmp .ne 30, 3) := by decide +kernel
theorem dX0_meetable_23 : decode cX0_meetable 23 = .ok (.aload_n 0, 1) := by decide +kernel
theorem dX0_meetable_24 : decode cX0_meetable 24 = .ok (.iload_n 1, 1) := by decide +kernel
theorem dX0_meetable_25 : decode cX0_meetable 25 = .ok (.iload 5, 2) := by decide +kernel
theorem dX0_meetable_27 : decode cX0_meetable 27 = .ok (.aload_n 0, 1) := by decide +kernel
theorem dX0_meetable_28 : decode cX0_meetable 28 = .ok (.iload_n 1, 1) := by decide +kernel
theorem dX0_meetable_29 : decode cX0_meetable 29 = .ok (.iload 5, 2) := by decide +kernel
theorem dX0_meetable_31 : decode cX0_meetable 31 = .ok (.invokevirtual 117, 3) := by decide +kernel
theorem dX0_meetable_34 : decode cX0_meetable 34 = .ok (.iload_n 3, 1) := by decide +kernel
theorem dX0_meetable_35 : decode cX0_meetable 35 = .ok (.invokevirtual 123, 3) := by decide +kernel
theorem dX0_meetable_38 : decode cX0_meetable 38 = .ok (.ifCond .eq 12, 3) := by decide +kernel
theorem dX0_meetable_41 : decode cX0_meetable 41 = .ok (.iload 4, 2) := by decide +kernel
theorem dX0_meetable_43 : decode cX0_meetable 43 = .ok (.iconst 1, 1) := by decide +kernel
theorem dX0_meetable_44 : decode cX0_meetable 44 = .ok (.iload 5, 2) := by decide +kernel
theorem dX0_meetable_46 : decode cX0_meetable 46 = .ok (.ishl, 1) := by decide +kernel
theorem dX0_meetable_47 : decode cX0_meetable 47 = .ok (.ior, 1) := by decide +kernel
theorem dX0_meetable_48 : decode cX0_meetable 48 = .ok (.istore 4, 2) := by decide +kernel
theorem dX0_meetable_50 : decode cX0_meetable 50 = .ok (.iinc 5 1, 3) := by decide +kernel
theorem dX0_meetable_53 : decode cX0_meetable 53 = .ok (.goto (-47), 3) := by decide +kernel
theorem dX0_meetable_56 : decode cX0_meetable 56 = .ok (.iload 4, 2) := by decide +kernel
theorem dX0_meetable_58 : decode cX0_meetable 58 = .ok (.ireturn, 1) := by decide +kernel
theorem dX0_lacking_0 : decode cX0_lacking 0 = .ok (.iconst 0, 1) := by decide +kernel
theorem dX0_lacking_1 : decode cX0_lacking 1 = .ok (.istore_n 3, 1) := by decide +kernel
theorem dX0_lacking_2 : decode cX0_lacking 2 = .ok (.aload_n 0, 1) := by decide +kernel
theorem dX0_lacking_3 : decode cX0_lacking 3 = .ok (.getfield 25, 3) := by decide +kernel
theorem dX0_lacking_6 : decode cX0_lacking 6 = .ok (.getfield 88, 3) := by decide +kernel
theorem dX0_lacking_9 : decode cX0_lacking 9 = .ok (.iload_n 1, 1) := by decide +kernel
theorem dX0_lacking_10 : decode cX0_lacking 10 = .ok (.iaload, 1) := by decide +kernel
theorem dX0_lacking_11 : decode cX0_lacking 11 = .ok (.iconst 1, 1) := by decide +kernel
theorem dX0_lacking_12 : decode cX0_lacking 12 = .ok (.iadd, 1) := by decide +kernel
theorem dX0_lacking_13 : decode cX0_lacking 13 = .ok (.istore 4, 2) := by decide +kernel
theorem dX0_lacking_15 : decode cX0_lacking 15 = .ok (.iload 4, 2) := by decide +kernel
theorem dX0_lacking_17 : decode cX0_lacking 17 = .ok (.iload_n 2, 1) := by decide +kernel
theorem dX0_lacking_18 : decode cX0_lacking 18 = .ok (.if_icmp .gt 23, 3) := by decide +kernel
theorem dX0_lacking_21 : decode cX0_lacking 21 = .ok (.iload 4, 2) := by decide +kernel
theorem dX0_lacking_23 : decode cX0_lacking 23 = .ok (.bipush 8, 2) := by decide +kernel
theorem dX0_lacking_25 : decode cX0_lacking 25 = .ok (.if_icmp .ge 16, 3) := by decide +kernel
theorem dX0_lacking_28 : decode cX0_lacking 28 = .ok (.iload_n 3, 1) := by decide +kernel
theorem dX0_lacking_29 : decode cX0_lacking 29 = .ok (.iconst 1, 1) := by decide +kernel
theorem dX0_lacking_30 : decode cX0_lacking 30 = .ok (.iload 4, 2) := by decide +kernel
theorem dX0_lacking_32 : decode cX0_lacking 32 = .ok (.ishl, 1) := by decide +kernel
theorem dX0_lacking_33 : decode cX0_lacking 33 = .ok (.ior, 1) := by decide +kernel
theorem dX0_lacking_34 : decode cX0_lacking 34 = .ok (.istore_n 3, 1) := by decide +kernel
theorem dX0_lacking_35 : decode cX0_lacking 35 = .ok (.iinc 4 1, 3) := by decide +kernel
theorem dX0_lacking_38 : decode cX0_lacking 38 = .ok (.goto (-23), 3) := by decide +kernel
theorem dX0_lacking_41 : decode cX0_lacking 41 = .ok (.iload_n 3, 1) := by decide +kernel
theorem dX0_lacking_42 : decode cX0_lacking 42 = .ok (.aload_n 0, 1) := by decide +kernel
theorem dX0_lacking_43 : decode cX0_lacking 43 = .ok (.getfield 25, 3) := by decide +kernel
theorem dX0_lacking_46 : decode cX0_lacking 46 = .ok (.getfield 134, 3) := by decide +kernel
theorem dX0_lacking_49 : decode cX0_lacking 49 = .ok (.iload_n 1, 1) := by decide +kernel
theorem dX0_lacking_50 : decode cX0_lacking 50 = .ok (.iaload, 1) := by decide +kernel
theorem dX0_lacking_51 : decode cX0_lacking 51 = .ok (.iconst (-1), 1) := by decide +kernel
theorem dX0_lacking_52 : decode cX0_lacking 52 = .ok (.ixor, 1) := by decide +kernel
theorem dX0_lacking_53 : decode cX0_lacking 53 = .ok (.iand, 1) := by decide +kernel
theorem dX0_lacking_54 : decode cX0_lacking 54 = .ok (.ireturn, 1) := by decide +kernel
theorem dX0_fitsSights_0 : decode cX0_fitsSights 0 = .ok (.iconst 0, 1) := by decide +kernel
theorem dX0_fitsSights_1 : decode cX0_fitsSights 1 = .ok (.istore_n 3, 1) := by decide +kernel
theorem dX0_fitsSights_2 : decode cX0_fitsSights 2 = .ok (.iload_n 3, 1) := by decide +kernel
theorem dX0_fitsSights_3 : decode cX0_fitsSights 3 = .ok (.aload_n 0, 1) := by decide +kernel
theorem dX0_fitsSights_4 : decode cX0_fitsSights 4 = .ok (.getfield 39, 3) := by decide +kernel
theorem dX0_fitsSights_7 : decode cX0_fitsSights 7 = .ok (.getfield 137, 3) := by decide +kernel
theorem dX0_fitsSights_10 : decode cX0_fitsSights 10 = .ok (.if_icmp .ge 78, 3) := by decide +kernel
theorem dX0_fitsSights_13 : decode cX0_fitsSights 13 = .ok (.aload_n 0, 1) := by decide +kernel
theorem dX0_fitsSights_14 : decode cX0_fitsSights 14 = .ok (.getfield 39, 3) := by decide +kernel
theorem dX0_fitsSights_17 : decode cX0_fitsSights 17 = .ok (.iload_n 3, 1) := by decide +kernel
theorem dX0_fitsSights_18 : decode cX0_fitsSights 18 = .ok (.iconst 0, 1) := by decide +kernel
theorem dX0_fitsSights_19 : decode cX0_fitsSights 19 = .ok (.invokevirtual 140, 3) := by decide +kernel
theorem dX0_fitsSights_22 : decode cX0_fitsSights 22 = .ok (.iload_n 1, 1) := by decide +kernel
theorem dX0_fitsSights_23 : decode cX0_fitsSights 23 = .ok (.if_icmp .ne 59, 3) := by decide +kernel
theorem dX0_fitsSights_26 : decode cX0_fitsSights 26 = .ok (.iconst 1, 1) := by decide +kernel
theorem dX0_fitsSights_27 : decode cX0_fitsSights 27 = .ok (.aload_n 0, 1) := by decide +kernel
theorem dX0_fitsSights_28 : decode cX0_fitsSights 28 = .ok (.getfield 39, 3) := by decide +kernel
theorem dX0_fitsSights_31 : decode cX0_fitsSights 31 = .ok (.iload_n 3, 1) := by decide +kernel
theorem dX0_fitsSights_32 : decode cX0_fitsSights 32 = .ok (.iconst 1, 1) := by decide +kernel
theorem dX0_fitsSights_33 : decode cX0_fitsSights 33 = .ok (.invokevirtual 140, 3) := by decide +kernel
theorem dX0_fitsSights_36 : decode cX0_fitsSights 36 = .ok (.ishl, 1) := by decide +kernel
theorem dX0_fitsSights_37 : decode cX0_fitsSights 37 = .ok (.istore 4, 2) := by decide +kernel
theorem dX0_fitsSights_39 : decode cX0_fitsSights 39 = .ok (.aload_n 0, 1) := by decide +kernel
theorem dX0_fitsSights_40 : decode cX0_fitsSights 40 = .ok (.getfield 39, 3) := by decide +kernel
theorem dX0_fitsSights_43 : decode cX0_fitsSights 43 = .ok (.iload_n 3, 1) := by decide +kernel
theorem dX0_fitsSights_44 : decode cX0_fitsSights 44 = .ok (.iconst 2, 1) := by decide +kernel
theorem dX0_fitsSights_45 : decode cX0_fitsSights 45 = .ok (.invokevirtual 140, 3) := by decide +kernel
theorem dX0_fitsSights_48 : decode cX0_fitsSights 48 = .ok (.iconst 1, 1) := by decide +kernel
theorem dX0_fitsSights_49 : decode cX0_fitsSights 49 = .ok (.if_icmp .ne 10, 3) := by decide +kernel
theorem dX0_fitsSights_52 : decode cX0_fitsSights 52 = .ok (.iload 4, 2) := by decide +kernel
theorem dX0_fitsSights_54 : decode cX0_fitsSights 54 = .ok (.iconst 1, 1) := by decide +kernel
theorem dX0_fitsSights_55 : decode cX0_fitsSights 55 = .ok (.isub, 1) := by decide +kernel
theorem dX0_fitsSights_56 : decode cX0_fitsSights 56 = .ok (.goto 9, 3) := by decide +kernel
theorem dX0_fitsSights_59 : decode cX0_fitsSights 59 = .ok (.iconst 2, 1) := by decide +kernel
theorem dX0_fitsSights_60 : decode cX0_fitsSights 60 = .ok (.iload 4, 2) := by decide +kernel
theorem dX0_fitsSights_62 : decode cX0_fitsSights 62 = .ok (.imul, 1) := by decide +kernel
theorem dX0_fitsSights_63 : decode cX0_fitsSights 63 = .ok (.iconst 1, 1) := by decide +kernel
theorem dX0_fitsSights_64 : decode cX0_fitsSights 64 = .ok (.isub, 1) := by decide +kernel
theorem dX0_fitsSights_65 : decode cX0_fitsSights 65 = .ok (.istore 5, 2) := by decide +kernel
theorem dX0_fitsSights_67 : decode cX0_fitsSights 67 = .ok (.iload_n 2, 1) := by decide +kernel
theorem dX0_fitsSights_68 : decode cX0_fitsSights 68 = .ok (.iconst 2, 1) := by decide +kernel
theorem dX0_fitsSights_69 : decode cX0_fitsSights 69 = .ok (.iload 4, 2) := by decide +kernel
theorem dX0_fitsSights_71 : decode cX0_fitsSights 71 = .ok (.imul, 1) := by decide +kernel
theorem dX0_fitsSights_72 : decode cX0_fitsSights 72 = .ok (.iconst 1, 1) := by decide +kernel
theorem dX0_fitsSights_73 : decode cX0_fitsSights 73 = .ok (.isub, 1) := by decide +kernel
theorem dX0_fitsSights_74 : decode cX0_fitsSights 74 = .ok (.iand, 1) := by decide +kernel
theorem dX0_fitsSights_75 : decode cX0_fitsSights 75 = .ok (.iload 5, 2) := by decide +kernel
theorem dX0_fitsSights_77 : decode cX0_fitsSights 77 = .ok (.if_icmp .eq 5, 3) := by decide +kernel
theorem dX0_fitsSights_80 : decode cX0_fitsSights 80 = .ok (.iconst 0, 1) := by decide +kernel
theorem dX0_fitsSights_81 : decode cX0_fitsSights 81 = .ok (.ireturn, 1) := by decide +kernel
theorem dX0_fitsSights_82 : decode cX0_fitsSights 82 = .ok (.iinc 3 1, 3) := by decide +kernel
theorem dX0_fitsSights_85 : decode cX0_fitsSights 85 = .ok (.goto (-83), 3) := by decide +kernel
theorem dX0_fitsSights_88 : decode cX0_fitsSights 88 = .ok (.iconst 1, 1) := by decide +kernel
theorem dX0_fitsSights_89 : decode cX0_fitsSights 89 = .ok (.ireturn, 1) := by decide +kernel
theorem dX0_restingPairs_0 : decode cX0_restingPairs 0 = .ok (.iconst 0, 1) := by decide +kernel
theorem dX0_restingPairs_1 : decode cX0_restingPairs 1 = .ok (.istore 5, 2) := by decide +kernel
theorem dX0_restingPairs_3 : decode cX0_restingPairs 3 = .ok (.iconst 0, 1) := by decide +kernel
theorem dX0_restingPairs_4 : decode cX0_restingPairs 4 = .ok (.istore 6, 2) := by decide +kernel
theorem dX0_restingPairs_6 : decode cX0_restingPairs 6 = .ok (.iload 6, 2) := by decide +kernel
theorem dX0_restingPairs_8 : decode cX0_restingPairs 8 = .ok (.iconst 4, 1) := by decide +kernel
theorem dX0_restingPairs_9 : decode cX0_restingPairs 9 = .ok (.if_icmp .ge 100, 3) := by decide +kernel
theorem dX0_restingPairs_12 : decode cX0_restingPairs 12 = .ok (.aload_n 0, 1) := by decide +kernel
theorem dX0_restingPairs_13 : decode cX0_restingPairs 13 = .ok (.iload_n 1, 1) := by decide +kernel
theorem dX0_restingPairs_14 : decode cX0_restingPairs 14 = .ok (.iload_n 2, 1) := by decide +kernel
theorem dX0_restingPairs_15 : decode cX0_restingPairs 15 = .ok (.iload_n 3, 1) := by decide +kernel
theorem dX0_restingPairs_16 : decode cX0_restingPairs 16 = .ok (.iload 4, 2) := by decide +kernel
theorem dX0_restingPairs_18 : decode cX0_restingPairs 18 = .ok (.iload 6, 2) := by decide +kernel
theorem dX0_restingPairs_20 : decode cX0_restingPairs 20 = .ok (.iconst 0, 1) := by decide +kernel
theorem dX0_restingPairs_21 : decode cX0_restingPairs 21 = .ok (.invokevirtual 143, 3) := by decide +kernel
theorem dX0_restingPairs_24 : decode cX0_restingPairs 24 = .ok (.aload_n 0, 1) := by decide +kernel
theorem dX0_restingPairs_25 : decode cX0_restingPairs 25 = .ok (.iload_n 1, 1) := by decide +kernel
theorem dX0_restingPairs_26 : decode cX0_restingPairs 26 = .ok (.iload_n 2, 1) := by decide +kernel
theorem dX0_restingPairs_27 : decode cX0_restingPairs 27 = .ok (.iload_n 3, 1) := by decide +kernel
theorem dX0_restingPairs_28 : decode cX0_restingPairs 28 = .ok (.iload 4, 2) := by decide +kernel
theorem dX0_restingPairs_30 : decode cX0_restingPairs 30 = .ok (.iload 6, 2) := by decide +kernel
theorem dX0_restingPairs_32 : decode cX0_restingPairs 32 = .ok (.iconst 1, 1) := by decide +kernel
theorem dX0_restingPairs_33 : decode cX0_restingPairs 33 = .ok (.ixor, 1) := by decide +kernel
theorem dX0_restingPairs_34 : decode cX0_restingPairs 34 = .ok (.iconst 0, 1) := by decide +kernel
theorem dX0_restingPairs_35 : decode cX0_restingPairs 35 = .ok (.invokevirtual 143, 3) := by decide +kernel
theorem dX0_restingPairs_38 : decode cX0_restingPairs 38 = .ok (.if_icmp .lt 7, 3) := by decide +kernel
theorem dX0_restingPairs_41 : decode cX0_restingPairs 41 = .ok (.iconst 1, 1) := by decide +kernel
theorem dX0_restingPairs_42 : decode cX0_restingPairs 42 = .ok (.goto 4, 3) := by decide +kernel
theorem dX0_restingPairs_45 : decode cX0_restingPairs 45 = .ok (.iconst 0, 1) := by decide +kernel
theorem dX0_restingPairs_46 : decode cX0_restingPairs 46 = .ok (.istore 7, 2) := by decide +kernel
theorem dX0_restingPairs_48 : decode cX0_restingPairs 48 = .ok (.aload_n 0, 1) := by decide +kernel
theorem dX0_restingPairs_49 : decode cX0_restingPairs 49 = .ok (.iload_n 1, 1) := by decide +kernel
theorem dX0_restingPairs_50 : decode cX0_restingPairs 50 = .ok (.iload_n 2, 1) := by decide +kernel
theorem dX0_restingPairs_51 : decode cX0_restingPairs 51 = .ok (.iload_n 3, 1) := by decide +kernel
theorem dX0_restingPairs_52 : decode cX0_restingPairs 52 = .ok (.iload 4, 2) := by decide +kernel
theorem dX0_restingPairs_54 : decode cX0_restingPairs 54 = .ok (.iload 6, 2) := by decide +kernel
theorem dX0_restingPairs_56 : decode cX0_restingPairs 56 = .ok (.iconst 1, 1) := by decide +kernel
theorem dX0_restingPairs_57 : decode cX0_restingPairs 57 = .ok (.invokevirtual 143, 3) := by decide +kernel
theorem dX0_restingPairs_60 : decode cX0_restingPairs 60 = .ok (.aload_n 0, 1) := by decide +kernel
theorem dX0_restingPairs_61 : decode cX0_restingPairs 61 = .ok (.iload_n 1, 1) := by decide +kernel
theorem dX0_restingPairs_62 : decode cX0_restingPairs 62 = .ok (.iload_n 2, 1) := by decide +kernel
theorem dX0_restingPairs_63 : decode cX0_restingPairs 63 = .ok (.iload_n 3, 1) := by decide +kernel
theorem dX0_restingPairs_64 : decode cX0_restingPairs 64 = .ok (.iload 4, 2) := by decide +kernel
theorem dX0_restingPairs_66 : decode cX0_restingPairs 66 = .ok (.iload 6, 2) := by decide +kernel
theorem dX0_restingPairs_68 : decode cX0_restingPairs 68 = .ok (.iconst 2, 1) := by decide +kernel
theorem dX0_restingPairs_69 : decode cX0_restingPairs 69 = .ok (.ixor, 1) := by decide +kernel
theorem dX0_restingPairs_70 : decode cX0_restingPairs 70 = .ok (.iconst 1, 1) := by decide +kernel
theorem dX0_restingPairs_71 : decode cX0_restingPairs 71 = .ok (.invokevirtual 143, 3) := by decide +kernel
theorem dX0_restingPairs_74 : decode cX0_restingPairs 74 = .ok (.if_icmp .lt 7, 3) := by decide +kernel
theorem dX0_restingPairs_77 : decode cX0_restingPairs 77 = .ok (.iconst 1, 1) := by decide +kernel
theorem dX0_restingPairs_78 : decode cX0_restingPairs 78 = .ok (.goto 4, 3) := by decide +kernel
theorem dX0_restingPairs_81 : decode cX0_restingPairs 81 = .ok (.iconst 0, 1) := by decide +kernel
theorem dX0_restingPairs_82 : decode cX0_restingPairs 82 = .ok (.istore 8, 2) := by decide +kernel
theorem dX0_restingPairs_84 : decode cX0_restingPairs 84 = .ok (.iload 7, 2) := by decide +kernel
theorem dX0_restingPairs_86 : decode cX0_restingPairs 86 = .ok (.ifCond .eq 17, 3) := by decide +kernel
theorem dX0_restingPairs_89 : decode cX0_restingPairs 89 = .ok (.iload 8, 2) := by decide +kernel
theorem dX0_restingPairs_91 : decode cX0_restingPairs 91 = .ok (.ifCond .eq 12, 3) := by decide +kernel
theorem dX0_restingPairs_94 : decode cX0_restingPairs 94 = .ok (.iload 5, 2) := by decide +kernel
theorem dX0_restingPairs_96 : decode cX0_restingPairs 96 = .ok (.iconst 1, 1) := by decide +kernel
theorem dX0_restingPairs_97 : decode cX0_restingPairs 97 = .ok (.iload 6, 2) := by decide +kernel
theorem dX0_restingPairs_99 : decode cX0_restingPairs 99 = .ok (.ishl, 1) := by decide +kernel
theorem dX0_restingPairs_100 : decode cX0_restingPairs 100 = .ok (.ior, 1) := by decide +kernel
theorem dX0_restingPairs_101 : decode cX0_restingPairs 101 = .ok (.istore 5, 2) := by decide +kernel
theorem dX0_restingPairs_103 : decode cX0_restingPairs 103 = .ok (.iinc 6 1, 3) := by decide +kernel
theorem dX0_restingPairs_106 : decode cX0_restingPairs 106 = .ok (.goto (-100), 3) := by decide +kernel
theorem dX0_restingPairs_109 : decode cX0_restingPairs 109 = .ok (.iload 5, 2) := by decide +kernel
theorem dX0_restingPairs_111 : decode cX0_restingPairs 111 = .ok (.ireturn, 1) := by decide +kernel
theorem dX0_hostGets_0 : decode cX0_hostGets 0 = .ok (.iload 5, 2) := by decide +kernel
theorem dX0_hostGets_2 : decode cX0_hostGets 2 = .ok (.iconst 1, 1) := by decide +kernel
theorem dX0_hostGets_3 : decode cX0_hostGets 3 = .ok (.iand, 1) := by decide +kernel
theorem dX0_hostGets_4 : decode cX0_hostGets 4 = .ok (.iload_n 1, 1) := by decide +kernel
theorem dX0_hostGets_5 : decode cX0_hostGets 5 = .ok (.ishl, 1) := by decide +kernel
theorem dX0_hostGets_6 : decode cX0_hostGets 6 = .ok (.iload 5, 2) := by decide +kernel
theorem dX0_hostGets_8 : decode cX0_hostGets 8 = .ok (.iconst 1, 1) := by decide +kernel
theorem dX0_hostGets_9 : decode cX0_hostGets 9 = .ok (.ishr, 1) := by decide +kernel
theorem dX0_hostGets_10 : decode cX0_hostGets 10 = .ok (.iconst 1, 1) := by decide +kernel
theorem dX0_hostGets_11 : decode cX0_hostGets 11 = .ok (.iand, 1) := by decide +kernel
theorem dX0_hostGets_12 : decode cX0_hostGets 12 = .ok (.iload_n 2, 1) := by decide +kernel
theorem dX0_hostGets_13 : decode cX0_hostGets 13 = .ok (.ishl, 1) := by decide +kernel
theorem dX0_hostGets_14 : decode cX0_hostGets 14 = .ok (.ior, 1) := by decide +kernel
theorem dX0_hostGets_15 : decode cX0_hostGets 15 = .ok (.istore 7, 2) := by decide +kernel
theorem dX0_hostGets_17 : decode cX0_hostGets 17 = .ok (.aload_n 0, 1) := by decide +kernel
theorem dX0_hostGets_18 : decode cX0_hostGets 18 = .ok (.iload_n 3, 1) := by decide +kernel
theorem dX0_hostGets_19 : decode cX0_hostGets 19 = .ok (.iload 4, 2) := by decide +kernel
theorem dX0_hostGets_21 : decode cX0_hostGets 21 = .ok (.iload 7, 2) := by decide +kernel
theorem dX0_hostGets_23 : decode cX0_hostGets 23 = .ok (.aload_n 0, 1) := by decide +kernel
theorem dX0_hostGets_24 : decode cX0_hostGets 24 = .ok (.getfield 25, 3) := by decide +kernel
theorem dX0_hostGets_27 : decode cX0_hostGets 27 = .ok (.getfield 120, 3) := by decide +kernel
theorem dX0_hostGets_30 : decode cX0_hostGets 30 = .ok (.invokevirtual 123, 3) := by decide +kernel
theorem dX0_hostGets_33 : decode cX0_hostGets 33 = .ok (.ifCond .eq 7, 3) := by decide +kernel
theorem dX0_hostGets_36 : decode cX0_hostGets 36 = .ok (.iconst 4, 1) := by decide +kernel
theorem dX0_hostGets_37 : decode cX0_hostGets 37 = .ok (.goto 4, 3) := by decide +kernel
theorem dX0_hostGets_40 : decode cX0_hostGets 40 = .ok (.iconst 0, 1) := by decide +kernel
theorem dX0_hostGets_41 : decode cX0_hostGets 41 = .ok (.istore 8, 2) := by decide +kernel
theorem dX0_hostGets_43 : decode cX0_hostGets 43 = .ok (.iload 5, 2) := by decide +kernel
theorem dX0_hostGets_45 : decode cX0_hostGets 45 = .ok (.iload 6, 2) := by decide +kernel
theorem dX0_hostGets_47 : decode cX0_hostGets 47 = .ok (.ishr, 1) := by decide +kernel
theorem dX0_hostGets_48 : decode cX0_hostGets 48 = .ok (.iconst 1, 1) := by decide +kernel
theorem dX0_hostGets_49 : decode cX0_hostGets 49 = .ok (.iand, 1) := by decide +kernel
theorem dX0_hostGets_50 : decode cX0_hostGets 50 = .ok (.iconst 1, 1) := by decide +kernel
theorem dX0_hostGets_51 : decode cX0_hostGets 51 = .ok (.if_icmp .ne 31, 3) := by decide +kernel
theorem dX0_hostGets_54 : decode cX0_hostGets 54 = .ok (.iload 8, 2) := by decide +kernel
theorem dX0_hostGets_56 : decode cX0_hostGets 56 = .ok (.iconst 1, 1) := by decide +kernel
theorem dX0_hostGets_57 : decode cX0_hostGets 57 = .ok (.aload_n 0, 1) := by decide +kernel
theorem dX0_hostGets_58 : decode cX0_hostGets 58 = .ok (.iload 6, 2) := by decide +kernel
theorem dX0_hostGets_60 : decode cX0_hostGets 60 = .ok (.ifCond .ne 7, 3) := by decide +kernel
theorem dX0_hostGets_63 : decode cX0_hostGets 63 = .ok (.iload_n 1, 1) := by decide +kernel
theorem dX0_hostGets_64 : decode cX0_hostGets 64 = .ok (.goto 4, 3) := by decide +kernel
theorem dX0_hostGets_67 : decode cX0_hostGets 67 = .ok (.iload_n 2, 1) := by decide +kernel
theorem dX0_hostGets_68 : decode cX0_hostGets 68 = .ok (.aload_n 0, 1) := by decide +kernel
theorem dX0_hostGets_69 : decode cX0_hostGets 69 = .ok (.getfield 25, 3) := by decide +kernel
theorem dX0_hostGets_72 : decode cX0_hostGets 72 = .ok (.getfield 120, 3) := by decide +kernel
theorem dX0_hostGets_75 : decode cX0_hostGets 75 = .ok (.invokevirtual 103, 3) := by decide +kernel
theorem dX0_hostGets_78 : decode cX0_hostGets 78 = .ok (.iadd, 1) := by decide +kernel
theorem dX0_hostGets_79 : decode cX0_hostGets 79 = .ok (.isub, 1) := by decide +kernel
theorem dX0_hostGets_80 : decode cX0_hostGets 80 = .ok (.istore 8, 2) := by decide +kernel
theorem dX0_hostGets_82 : decode cX0_hostGets 82 = .ok (.iload 8, 2) := by decide +kernel
theorem dX0_hostGets_84 : decode cX0_hostGets 84 = .ok (.ireturn, 1) := by decide +kernel
theorem dX0_digestOn_0 : decode cX0_digestOn 0 = .ok (.lload_n 1, 1) := by decide +kernel
theorem dX0_digestOn_1 : decode cX0_digestOn 1 = .ok (.lstore_n 3, 1) := by decide +kernel
theorem dX0_digestOn_2 : decode cX0_digestOn 2 = .ok (.iconst 0, 1) := by decide +kernel
theorem dX0_digestOn_3 : decode cX0_digestOn 3 = .ok (.istore 5, 2) := by decide +kernel
theorem dX0_digestOn_5 : decode cX0_digestOn 5 = .ok (.iload 5, 2) := by decide +kernel
theorem dX0_digestOn_7 : decode cX0_digestOn 7 = .ok (.bipush 8, 2) := by decide +kernel
theorem dX0_digestOn_9 : decode cX0_digestOn 9 = .ok (.if_icmp .ge 27, 3) := by decide +kernel
theorem dX0_digestOn_12 : decode cX0_digestOn 12 = .ok (.ldc2_w 147, 3) := by decide +kernel
theorem dX0_digestOn_15 : decode cX0_digestOn 15 = .ok (.lload_n 3, 1) := by decide +kernel
theorem dX0_digestOn_16 : decode cX0_digestOn 16 = .ok (.lmul, 1) := by decide +kernel
theorem dX0_digestOn_17 : decode cX0_digestOn 17 = .ok (.aload_n 0, 1) := by decide +kernel
theorem dX0_digestOn_18 : decode cX0_digestOn 18 = .ok (.getfield 25, 3) := by decide +kernel
theorem dX0_digestOn_21 : decode cX0_digestOn 21 = .ok (.getfield 95, 3) := by decide +kernel
theorem dX0_digestOn_24 : decode cX0_digestOn 24 = .ok (.iload 5, 2) := by decide +kernel
theorem dX0_digestOn_26 : decode cX0_digestOn 26 = .ok (.iaload, 1) := by decide +kernel
theorem dX0_digestOn_27 : decode cX0_digestOn 27 = .ok (.i2l, 1) := by decide +kernel
theorem dX0_digestOn_28 : decode cX0_digestOn 28 = .ok (.ladd, 1) := by decide +kernel
theorem dX0_digestOn_29 : decode cX0_digestOn 29 = .ok (.lstore_n 3, 1) := by decide +kernel
theorem dX0_digestOn_30 : decode cX0_digestOn 30 = .ok (.iinc 5 1, 3) := by decide +kernel
theorem dX0_digestOn_33 : decode cX0_digestOn 33 = .ok (.goto (-28), 3) := by decide +kernel
theorem dX0_digestOn_36 : decode cX0_digestOn 36 = .ok (.ldc2_w 147, 3) := by decide +kernel
theorem dX0_digestOn_39 : decode cX0_digestOn 39 = .ok (.lload_n 3, 1) := by decide +kernel
theorem dX0_digestOn_40 : decode cX0_digestOn 40 = .ok (.lmul, 1) := by decide +kernel
theorem dX0_digestOn_41 : decode cX0_digestOn 41 = .ok (.aload_n 0, 1) := by decide +kernel
theorem dX0_digestOn_42 : decode cX0_digestOn 42 = .ok (.getfield 25, 3) := by decide +kernel
theorem dX0_digestOn_45 : decode cX0_digestOn 45 = .ok (.getfield 149, 3) := by decide +kernel
theorem dX0_digestOn_48 : decode cX0_digestOn 48 = .ok (.i2l, 1) := by decide +kernel
theorem dX0_digestOn_49 : decode cX0_digestOn 49 = .ok (.ladd, 1) := by decide +kernel
theorem dX0_digestOn_50 : decode cX0_digestOn 50 = .ok (.lstore_n 3, 1) := by decide +kernel
theorem dX0_digestOn_51 : decode cX0_digestOn 51 = .ok (.iconst 0, 1) := by decide +kernel
theorem dX0_digestOn_52 : decode cX0_digestOn 52 = .ok (.istore 5, 2) := by decide +kernel
theorem dX0_digestOn_54 : decode cX0_digestOn 54 = .ok (.iload 5, 2) := by decide +kernel
theorem dX0_digestOn_56 : decode cX0_digestOn 56 = .ok (.aload_n 0, 1) := by decide +kernel
theorem dX0_digestOn_57 : decode cX0_digestOn 57 = .ok (.getfield 9, 3) := by decide +kernel
theorem dX0_digestOn_60 : decode cX0_digestOn 60 = .ok (.if_icmp .ge 82, 3) := by decide +kernel
theorem dX0_digestOn_63 : decode cX0_digestOn 63 = .ok (.iload 5, 2) := by decide +kernel
theorem dX0_digestOn_65 : decode cX0_digestOn 65 = .ok (.bipush 6, 2) := by decide +kernel
theorem dX0_digestOn_67 : decode cX0_digestOn 67 = .ok (.if_icmp .ge 75, 3) := by decide +kernel
theorem dX0_digestOn_70 : decode cX0_digestOn 70 = .ok (.ldc2_w 147, 3) := by decide +kernel
theorem dX0_digestOn_73 : decode cX0_digestOn 73 = .ok (.lload_n 3, 1) := by decide +kernel
theorem dX0_digestOn_74 : decode cX0_digestOn 74 = .ok (.lmul, 1) := by decide +kernel
theorem dX0_digestOn_75 : decode cX0_digestOn 75 = .ok (.aload_n 0, 1) := by decide +kernel
theorem dX0_digestOn_76 : decode cX0_digestOn 76 = .ok (.getfield 15, 3) := by decide +kernel
theorem dX0_digestOn_79 : decode cX0_digestOn 79 = .ok (.iload 5, 2) := by decide +kernel
theorem dX0_digestOn_81 : decode cX0_digestOn 81 = .ok (.iaload, 1) := by decide +kernel
theorem dX0_digestOn_82 : decode cX0_digestOn 82 = .ok (.i2l, 1) := by decide +kernel
theorem dX0_digestOn_83 : decode cX0_digestOn 83 = .ok (.ladd, 1) := by decide +kernel
theorem dX0_digestOn_84 : decode cX0_digestOn 84 = .ok (.lstore_n 3, 1) := by decide +kernel
theorem dX0_digestOn_85 : decode cX0_digestOn 85 = .ok (.ldc2_w 147, 3) := by decide +kernel
theorem dX0_digestOn_88 : decode cX0_digestOn 88 = .ok (.lload_n 3, 1) := by decide +kernel
theorem dX0_digestOn_89 : decode cX0_digestOn 89 = .ok (.lmul, 1) := by decide +kernel
theorem dX0_digestOn_90 : decode cX0_digestOn 90 = .ok (.aload_n 0, 1) := by decide +kernel
theorem dX0_digestOn_91 : decode cX0_digestOn 91 = .ok (.getfield 19, 3) := by decide +kernel
theorem dX0_digestOn_94 : decode cX0_digestOn 94 = .ok (.iload 5, 2) := by decide +kernel
theorem dX0_digestOn_96 : decode cX0_digestOn 96 = .ok (.iaload, 1) := by decide +kernel
theorem dX0_digestOn_97 : decode cX0_digestOn 97 = .ok (.i2l, 1) := by decide +kernel
theorem dX0_digestOn_98 : decode cX0_digestOn 98 = .ok (.ladd, 1) := by decide +kernel
theorem dX0_digestOn_99 : decode cX0_digestOn 99 = .ok (.lstore_n 3, 1) := by decide +kernel
theorem dX0_digestOn_100 : decode cX0_digestOn 100 = .ok (.ldc2_w 147, 3) := by decide +kernel
theorem dX0_digestOn_103 : decode cX0_digestOn 103 = .ok (.lload_n 3, 1) := by decide +kernel
theorem dX0_digestOn_104 : decode cX0_digestOn 104 = .ok (.lmul, 1) := by decide +kernel
theorem dX0_digestOn_105 : decode cX0_digestOn 105 = .ok (.aload_n 0, 1) := by decide +kernel
theorem dX0_digestOn_106 : decode cX0_digestOn 106 = .ok (.getfield 25, 3) := by decide +kernel
theorem dX0_digestOn_109 : decode cX0_digestOn 109 = .ok (.getfield 88, 3) := by decide +kernel
theorem dX0_digestOn_112 : decode cX0_digestOn 112 = .ok (.iload 5, 2) := by decide +kernel
theorem dX0_digestOn_114 : decode cX0_digestOn 114 = .ok (.iaload, 1) := by decide +kernel
theorem dX0_digestOn_115 : decode cX0_digestOn 115 = .ok (.i2l, 1) := by decide +kernel
theorem dX0_digestOn_116 : decode cX0_digestOn 116 = .ok (.ladd, 1) := by decide +kernel
theorem dX0_digestOn_117 : decode cX0_digestOn 117 = .ok (.lstore_n 3, 1) := by decide +kernel
theorem dX0_digestOn_118 : decode cX0_digestOn 118 = .ok (.ldc2_w 147, 3) := by decide +kernel
theorem dX0_digestOn_121 : decode cX0_digestOn 121 = .ok (.lload_n 3, 1) := by decide +kernel
theorem dX0_digestOn_122 : decode cX0_digestOn 122 = .ok (.lmul, 1) := by decide +kernel
theorem dX0_digestOn_123 : decode cX0_digestOn 123 = .ok (.aload_n 0, 1) := by decide +kernel
theorem dX0_digestOn_124 : decode cX0_digestOn 124 = .ok (.getfield 25, 3) := by decide +kernel
theorem dX0_digestOn_127 : decode cX0_digestOn 127 = .ok (.getfield 134, 3) := by decide +kernel
theorem dX0_digestOn_130 : decode cX0_digestOn 130 = .ok (.iload 5, 2) := by decide +kernel
theorem dX0_digestOn_132 : decode cX0_digestOn 132 = .ok (.iaload, 1) := by decide +kernel
theorem dX0_digestOn_133 : decode cX0_digestOn 133 = .ok (.i2l, 1) := by decide +kernel
theorem dX0_digestOn_134 : decode cX0_digestOn 134 = .ok (.ladd, 1) := by decide +kernel
theorem dX0_digestOn_135 : decode cX0_digestOn 135 = .ok (.lstore_n 3, 1) := by decide +kernel
theorem dX0_digestOn_136 : decode cX0_digestOn 136 = .ok (.iinc 5 1, 3) := by decide +kernel
theorem dX0_digestOn_139 : decode cX0_digestOn 139 = .ok (.goto (-85), 3) := by decide +kernel
theorem dX0_digestOn_142 : decode cX0_digestOn 142 = .ok (.aload_n 0, 1) := by decide +kernel
theorem dX0_digestOn_143 : decode cX0_digestOn 143 = .ok (.getfield 39, 3) := by decide +kernel
theorem dX0_digestOn_146 : decode cX0_digestOn 146 = .ok (.lload_n 3, 1) := by decide +kernel
theorem dX0_digestOn_147 : decode cX0_digestOn 147 = .ok (.iconst 3, 1) := by decide +kernel
theorem dX0_digestOn_148 : decode cX0_digestOn 148 = .ok (.invokevirtual 152, 3) := by decide +kernel
theorem dX0_digestOn_151 : decode cX0_digestOn 151 = .ok (.lstore_n 3, 1) := by decide +kernel
theorem dX0_digestOn_152 : decode cX0_digestOn 152 = .ok (.aload_n 0, 1) := by decide +kernel
theorem dX0_digestOn_153 : decode cX0_digestOn 153 = .ok (.getfield 43, 3) := by decide +kernel
theorem dX0_digestOn_156 : decode cX0_digestOn 156 = .ok (.lload_n 3, 1) := by decide +kernel
theorem dX0_digestOn_157 : decode cX0_digestOn 157 = .ok (.iconst 4, 1) := by decide +kernel
theorem dX0_digestOn_158 : decode cX0_digestOn 158 = .ok (.invokevirtual 152, 3) := by decide +kernel
theorem dX0_digestOn_161 : decode cX0_digestOn 161 = .ok (.lstore_n 3, 1) := by decide +kernel
theorem dX0_digestOn_162 : decode cX0_digestOn 162 = .ok (.aload_n 0, 1) := by decide +kernel
theorem dX0_digestOn_163 : decode cX0_digestOn 163 = .ok (.getfield 46, 3) := by decide +kernel
theorem dX0_digestOn_166 : decode cX0_digestOn 166 = .ok (.lload_n 3, 1) := by decide +kernel
theorem dX0_digestOn_167 : decode cX0_digestOn 167 = .ok (.iconst 4, 1) := by decide +kernel
theorem dX0_digestOn_168 : decode cX0_digestOn 168 = .ok (.invokevirtual 152, 3) := by decide +kernel
theorem dX0_digestOn_171 : decode cX0_digestOn 171 = .ok (.lreturn, 1) := by decide +kernel
theorem dX1_init_0 : decode cX1_init 0 = .ok (.aload_n 0, 1) := by decide +kernel
theorem dX1_init_1 : decode cX1_init 1 = .ok (.invokespecial 3, 3) := by decide +kernel
theorem dX1_init_4 : decode cX1_init 4 = .ok (.return_, 1) := by decide +kernel
theorem dX1_fitting_0 : decode cX1_fitting 0 = .ok (.iconst 0, 1) := by decide +kernel
theorem dX1_fitting_1 : decode cX1_fitting 1 = .ok (.istore_n 3, 1) := by decide +kernel
theorem dX1_fitting_2 : decode cX1_fitting 2 = .ok (.iconst 0, 1) := by decide +kernel
theorem dX1_fitting_3 : decode cX1_fitting 3 = .ok (.istore 4, 2) := by decide +kernel
theorem dX1_fitting_5 : decode cX1_fitting 5 = .ok (.iload 4, 2) := by decide +kernel
theorem dX1_fitting_7 : decode cX1_fitting 7 = .ok (.bipush 6, 2) := by decide +kernel
theorem dX1_fitting_9 : decode cX1_fitting 9 = .ok (.if_icmp .ge 27, 3) := by decide +kernel
theorem dX1_fitting_12 : decode cX1_fitting 12 = .ok (.aload_n 0, 1) := by decide +kernel
theorem dX1_fitting_13 : decode cX1_fitting 13 = .ok (.iload 4, 2) := by decide +kernel
theorem dX1_fitting_15 : decode cX1_fitting 15 = .ok (.aload_n 1, 1) := by decide +kernel
theorem dX1_fitting_16 : decode cX1_fitting 16 = .ok (.iload_n 2, 1) := by decide +kernel
theorem dX1_fitting_17 : decode cX1_fitting 17 = .ok (.invokevirtual 9, 3) := by decide +kernel
theorem dX1_fitting_20 : decode cX1_fitting 20 = .ok (.ifCond .eq 10, 3) := by decide +kernel
theorem dX1_fitting_23 : decode cX1_fitting 23 = .ok (.iload_n 3, 1) := by decide +kernel
theorem dX1_fitting_24 : decode cX1_fitting 24 = .ok (.iconst 1, 1) := by decide +kernel
theorem dX1_fitting_25 : decode cX1_fitting 25 = .ok (.iload 4, 2) := by decide +kernel
theorem dX1_fitting_27 : decode cX1_fitting 27 = .ok (.ishl, 1) := by decide +kernel
theorem dX1_fitting_28 : decode cX1_fitting 28 = .ok (.ior, 1) := by decide +kernel
theorem dX1_fitting_29 : decode cX1_fitting 29 = .ok (.istore_n 3, 1) := by decide +kernel
theorem dX1_fitting_30 : decode cX1_fitting 30 = .ok (.iinc 4 1, 3) := by decide +kernel
theorem dX1_fitting_33 : decode cX1_fitting 33 = .ok (.goto (-28), 3) := by decide +kernel
theorem dX1_fitting_36 : decode cX1_fitting 36 = .ok (.iload_n 3, 1) := by decide +kernel
theorem dX1_fitting_37 : decode cX1_fitting 37 = .ok (.ireturn, 1) := by decide +kernel
theorem dX1_nextQuestion_0 : decode cX1_nextQuestion 0 = .ok (.aload_n 0, 1) := by decide +kernel
theorem dX1_nextQuestion_1 : decode cX1_nextQuestion 1 = .ok (.aload_n 1, 1) := by decide +kernel
theorem dX1_nextQuestion_2 : decode cX1_nextQuestion 2 = .ok (.iload_n 2, 1) := by decide +kernel
theorem dX1_nextQuestion_3 : decode cX1_nextQuestion 3 = .ok (.invokevirtual 15, 3) := by decide +kernel
theorem dX1_nextQuestion_6 : decode cX1_nextQuestion 6 = .ok (.istore_n 3, 1) := by decide +kernel
theorem dX1_nextQuestion_7 : decode cX1_nextQuestion 7 = .ok (.iload_n 3, 1) := by decide +kernel
theorem dX1_nextQuestion_8 : decode cX1_nextQuestion 8 = .ok (.ifCond .ne 7, 3) := by decide +kernel
theorem dX1_nextQuestion_11 : decode cX1_nextQuestion 11 = .ok (.iconst (-1), 1) := by decide +kernel
theorem dX1_nextQuestion_12 : decode cX1_nextQuestion 12 = .ok (.goto 8, 3) := by decide +kernel
theorem dX1_nextQuestion_15 : decode cX1_nextQuestion 15 = .ok (.aload_n 0, 1) := by decide +kernel
theorem dX1_nextQuestion_16 : decode cX1_nextQuestion 16 = .ok (.iload_n 3, 1) := by decide +kernel
theorem dX1_nextQuestion_17 : decode cX1_nextQuestion 17 = .ok (.invokevirtual 19, 3) := by decide +kernel
theorem dX1_nextQuestion_20 : decode cX1_nextQuestion 20 = .ok (.ireturn, 1) := by decide +kernel
theorem dX1_fits_0 : decode cX1_fits 0 = .ok (.iconst 0, 1) := by decide +kernel
theorem dX1_fits_1 : decode cX1_fits 1 = .ok (.istore 4, 2) := by decide +kernel
theorem dX1_fits_3 : decode cX1_fits 3 = .ok (.iload 4, 2) := by decide +kernel
theorem dX1_fits_5 : decode cX1_fits 5 = .ok (.aload_n 2, 1) := by decide +kernel
theorem dX1_fits_6 : decode cX1_fits 6 = .ok (.getfield 23, 3) := by decide +kernel
theorem dX1_fits_9 : decode cX1_fits 9 = .ok (.if_icmp .ge 63, 3) := by decide +kernel
theorem dX1_fits_12 : decode cX1_fits 12 = .ok (.aload_n 2, 1) := by decide +kernel
theorem dX1_fits_13 : decode cX1_fits 13 = .ok (.iload 4, 2) := by decide +kernel
theorem dX1_fits_15 : decode cX1_fits 15 = .ok (.iconst 0, 1) := by decide +kernel
theorem dX1_fits_16 : decode cX1_fits 16 = .ok (.invokevirtual 29, 3) := by decide +kernel
theorem dX1_fits_19 : decode cX1_fits 19 = .ok (.iload_n 3, 1) := by decide +kernel
theorem dX1_fits_20 : decode cX1_fits 20 = .ok (.if_icmp .ne 7, 3) := by decide +kernel
theorem dX1_fits_23 : decode cX1_fits 23 = .ok (.iconst 1, 1) := by decide +kernel
theorem dX1_fits_24 : decode cX1_fits 24 = .ok (.goto 4, 3) := by decide +kernel
theorem dX1_fits_27 : decode cX1_fits 27 = .ok (.iconst 0, 1) := by decide +kernel
theorem dX1_fits_28 : decode cX1_fits 28 = .ok (.istore 5, 2) := by decide +kernel
theorem dX1_fits_30 : decode cX1_fits 30 = .ok (.iload 5, 2) := by decide +kernel
theorem dX1_fits_32 : decode cX1_fits 32 = .ok (.ifCond .eq 34, 3) := by decide +kernel
theorem dX1_fits_35 : decode cX1_fits 35 = .ok (.aload_n 0, 1) := by decide +kernel
theorem dX1_fits_36 : decode cX1_fits 36 = .ok (.iload_n 1, 1) := by decide +kernel
theorem dX1_fits_37 : decode cX1_fits 37 = .ok (.aload_n 2, 1) := by decide +kernel
theorem dX1_fits_38 : decode cX1_fits 38 = .ok (.iload 4, 2) := by decide +kernel
theorem dX1_fits_40 : decode cX1_fits 40 = .ok (.iconst 1, 1) := by decide +kernel
theorem dX1_fits_41 : decode cX1_fits 41 = .ok (.invokevirtual 29, 3) := by decide +kernel
theorem dX1_fits_44 : decode cX1_fits 44 = .ok (.aload_n 2, 1) := by decide +kernel
theorem dX1_fits_45 : decode cX1_fits 45 = .ok (.iload 4, 2) := by decide +kernel
theorem dX1_fits_47 : decode cX1_fits 47 = .ok (.iconst 2, 1) := by decide +kernel
theorem dX1_fits_48 : decode cX1_fits 48 = .ok (.invokevirtual 29, 3) := by decide +kernel
theorem dX1_fits_51 : decode cX1_fits 51 = .ok (.invokevirtual 33, 3) := by decide +kernel
theorem dX1_fits_54 : decode cX1_fits 54 = .ok (.aload_n 2, 1) := by decide +kernel
theorem dX1_fits_55 : decode cX1_fits 55 = .ok (.iload 4, 2) := by decide +kernel
theorem dX1_fits_57 : decode cX1_fits 57 = .ok (.iconst 3, 1) := by decide +kernel
theorem dX1_fits_58 : decode cX1_fits 58 = .ok (.invokevirtual 29, 3) := by decide +kernel
theorem dX1_fits_61 : decode cX1_fits 61 = .ok (.if_icmp .eq 5, 3) := by decide +kernel
theorem dX1_fits_64 : decode cX1_fits 64 = .ok (.iconst 0, 1) := by decide +kernel
theorem dX1_fits_65 : decode cX1_fits 65 = .ok (.ireturn, 1) := by decide +kernel
theorem dX1_fits_66 : decode cX1_fits 66 = .ok (.iinc 4 1, 3) := by decide +kernel
theorem dX1_fits_69 : decode cX1_fits 69 = .ok (.goto (-66), 3) := by decide +kernel
theorem dX1_fits_72 : decode cX1_fits 72 = .ok (.iconst 1, 1) := by decide +kernel
theorem dX1_fits_73 : decode cX1_fits 73 = .ok (.ireturn, 1) := by decide +kernel
theorem dX1_mostAlike_0 : decode cX1_mostAlike 0 = .ok (.iconst 0, 1) := by decide +kernel
theorem dX1_mostAlike_1 : decode cX1_mostAlike 1 = .ok (.istore 4, 2) := by decide +kernel
theorem dX1_mostAlike_3 : decode cX1_mostAlike 3 = .ok (.iconst 0, 1) := by decide +kernel
theorem dX1_mostAlike_4 : decode cX1_mostAlike 4 = .ok (.istore 5, 2) := by decide +kernel
theorem dX1_mostAlike_6 : decode cX1_mostAlike 6 = .ok (.iload 5, 2) := by decide +kernel
theorem dX1_mostAlike_8 : decode cX1_mostAlike 8 = .ok (.bipush 6, 2) := by decide +kernel
theorem dX1_mostAlike_10 : decode cX1_mostAlike 10 = .ok (.if_icmp .ge 41, 3) := by decide +kernel
theorem dX1_mostAlike_13 : decode cX1_mostAlike 13 = .ok (.iload_n 1, 1) := by decide +kernel
theorem dX1_mostAlike_14 : decode cX1_mostAlike 14 = .ok (.iload 5, 2) := by decide +kernel
theorem dX1_mostAlike_16 : decode cX1_mostAlike 16 = .ok (.ishr, 1) := by decide +kernel
theorem dX1_mostAlike_17 : decode cX1_mostAlike 17 = .ok (.iconst 1, 1) := by decide +kernel
theorem dX1_mostAlike_18 : decode cX1_mostAlike 18 = .ok (.iand, 1) := by decide +kernel
theorem dX1_mostAlike_19 : decode cX1_mostAlike 19 = .ok (.iconst 1, 1) := by decide +kernel
theorem dX1_mostAlike_20 : decode cX1_mostAlike 20 = .ok (.if_icmp .ne 25, 3) := by decide +kernel
theorem dX1_mostAlike_23 : decode cX1_mostAlike 23 = .ok (.iload 4, 2) := by decide +kernel
theorem dX1_mostAlike_25 : decode cX1_mostAlike 25 = .ok (.aload_n 0, 1) := by decide +kernel
theorem dX1_mostAlike_26 : decode cX1_mostAlike 26 = .ok (.iload_n 1, 1) := by decide +kernel
theorem dX1_mostAlike_27 : decode cX1_mostAlike 27 = .ok (.aload_n 0, 1) := by decide +kernel
theorem dX1_mostAlike_28 : decode cX1_mostAlike 28 = .ok (.iload 5, 2) := by decide +kernel
theorem dX1_mostAlike_30 : decode cX1_mostAlike 30 = .ok (.iload_n 2, 1) := by decide +kernel
theorem dX1_mostAlike_31 : decode cX1_mostAlike 31 = .ok (.iload_n 3, 1) := by decide +kernel
theorem dX1_mostAlike_32 : decode cX1_mostAlike 32 = .ok (.invokevirtual 33, 3) := by decide +kernel
theorem dX1_mostAlike_35 : decode cX1_mostAlike 35 = .ok (.iload_n 2, 1) := by decide +kernel
theorem dX1_mostAlike_36 : decode cX1_mostAlike 36 = .ok (.iload_n 3, 1) := by decide +kernel
theorem dX1_mostAlike_37 : decode cX1_mostAlike 37 = .ok (.invokevirtual 37, 3) := by decide +kernel
theorem dX1_mostAlike_40 : decode cX1_mostAlike 40 = .ok (.invokestatic 41, 3) := by decide +kernel
theorem dX1_mostAlike_43 : decode cX1_mostAlike 43 = .ok (.istore 4, 2) := by decide +kernel
theorem dX1_mostAlike_45 : decode cX1_mostAlike 45 = .ok (.iinc 5 1, 3) := by decide +kernel
theorem dX1_mostAlike_48 : decode cX1_mostAlike 48 = .ok (.goto (-42), 3) := by decide +kernel
theorem dX1_mostAlike_51 : decode cX1_mostAlike 51 = .ok (.iload 4, 2) := by decide +kernel
theorem dX1_mostAlike_53 : decode cX1_mostAlike 53 = .ok (.ireturn, 1) := by decide +kernel
theorem dX1_alike_0 : decode cX1_alike 0 = .ok (.iconst 0, 1) := by decide +kernel
theorem dX1_alike_1 : decode cX1_alike 1 = .ok (.istore 5, 2) := by decide +kernel
theorem dX1_alike_3 : decode cX1_alike 3 = .ok (.iconst 0, 1) := by decide +kernel
theorem dX1_alike_4 : decode cX1_alike 4 = .ok (.istore 6, 2) := by decide +kernel
theorem dX1_alike_6 : decode cX1_alike 6 = .ok (.iload 6, 2) := by decide +kernel
theorem dX1_alike_8 : decode cX1_alike 8 = .ok (.bipush 6, 2) := by decide +kernel
theorem dX1_alike_10 : decode cX1_alike 10 = .ok (.if_icmp .ge 35, 3) := by decide +kernel
theorem dX1_alike_13 : decode cX1_alike 13 = .ok (.iload_n 1, 1) := by decide +kernel
theorem dX1_alike_14 : decode cX1_alike 14 = .ok (.iload 6, 2) := by decide +kernel
theorem dX1_alike_16 : decode cX1_alike 16 = .ok (.ishr, 1) := by decide +kernel
theorem dX1_alike_17 : decode cX1_alike 17 = .ok (.iconst 1, 1) := by decide +kernel
theorem dX1_alike_18 : decode cX1_alike 18 = .ok (.iand, 1) := by decide +kernel
theorem dX1_alike_19 : decode cX1_alike 19 = .ok (.iconst 1, 1) := by decide +kernel
theorem dX1_alike_20 : decode cX1_alike 20 = .ok (.if_icmp .ne 19, 3) := by decide +kernel
theorem dX1_alike_23 : decode cX1_alike 23 = .ok (.aload_n 0, 1) := by decide +kernel
theorem dX1_alike_24 : decode cX1_alike 24 = .ok (.iload 6, 2) := by decide +kernel
theorem dX1_alike_26 : decode cX1_alike 26 = .ok (.iload_n 3, 1) := by decide +kernel
theorem dX1_alike_27 : decode cX1_alike 27 = .ok (.iload 4, 2) := by decide +kernel
theorem dX1_alike_29 : decode cX1_alike 29 = .ok (.invokevirtual 33, 3) := by decide +kernel
theorem dX1_alike_32 : decode cX1_alike 32 = .ok (.iload_n 2, 1) := by decide +kernel
theorem dX1_alike_33 : decode cX1_alike 33 = .ok (.if_icmp .ne 6, 3) := by decide +kernel
theorem dX1_alike_36 : decode cX1_alike 36 = .ok (.iinc 5 1, 3) := by decide +kernel
theorem dX1_alike_39 : decode cX1_alike 39 = .ok (.iinc 6 1, 3) := by decide +kernel
theorem dX1_alike_42 : decode cX1_alike 42 = .ok (.goto (-36), 3) := by decide +kernel
theorem dX1_alike_45 : decode cX1_alike 45 = .ok (.iload 5, 2) := by decide +kernel
theorem dX1_alike_47 : decode cX1_alike 47 = .ok (.ireturn, 1) := by decide +kernel
theorem dX2_init_0 : decode cX2_init 0 = .ok (.aload_n 0, 1) := by decide +kernel
theorem dX2_init_1 : decode cX2_init 1 = .ok (.invokespecial 3, 3) := by decide +kernel
theorem dX2_init_4 : decode cX2_init 4 = .ok (.return_, 1) := by decide +kernel
theorem dX2_answer_0 : decode cX2_answer 0 = .ok (.iconst 1, 1) := by decide +kernel
theorem dX2_answer_1 : decode cX2_answer 1 = .ok (.istore 4, 2) := by decide +kernel
theorem dX2_answer_3 : decode cX2_answer 3 = .ok (.iload 4, 2) := by decide +kernel
theorem dX2_answer_5 : decode cX2_answer 5 = .ok (.iconst 1, 1) := by decide +kernel
theorem dX2_answer_6 : decode cX2_answer 6 = .ok (.iadd, 1) := by decide +kernel
theorem dX2_answer_7 : decode cX2_answer 7 = .ok (.istore 5, 2) := by decide +kernel
theorem dX2_answer_9 : decode cX2_answer 9 = .ok (.iload_n 1, 1) := by decide +kernel
theorem dX2_answer_10 : decode cX2_answer 10 = .ok (.tableswitch 82 0 4 #[34, 37, 40, 53, 68], 34) := by decide +kernel
theorem dX2_answer_44 : decode cX2_answer 44 = .ok (.iload 4, 2) := by decide +kernel
theorem dX2_answer_46 : decode cX2_answer 46 = .ok (.ireturn, 1) := by decide +kernel
theorem dX2_answer_47 : decode cX2_answer 47 = .ok (.iload 5, 2) := by decide +kernel
theorem dX2_answer_49 : decode cX2_answer 49 = .ok (.ireturn, 1) := by decide +kernel
theorem dX2_answer_50 : decode cX2_answer 50 = .ok (.iload_n 3, 1) := by decide +kernel
theorem dX2_answer_51 : decode cX2_answer 51 = .ok (.bipush 18, 2) := by decide +kernel
theorem dX2_answer_53 : decode cX2_answer 53 = .ok (.if_icmp .lt 7, 3) := by decide +kernel
theorem dX2_answer_56 : decode cX2_answer 56 = .ok (.iconst 0, 1) := by decide +kernel
theorem dX2_answer_57 : decode cX2_answer 57 = .ok (.goto 5, 3) := by decide +kernel
theorem dX2_answer_60 : decode cX2_answer 60 = .ok (.iload 4, 2) := by decide +kernel
theorem dX2_answer_62 : decode cX2_answer 62 = .ok (.ireturn, 1) := by decide +kernel
theorem dX2_answer_63 : decode cX2_answer 63 = .ok (.iload_n 2, 1) := by decide +kernel
theorem dX2_answer_64 : decode cX2_answer 64 = .ok (.iconst (-1), 1) := by decide +kernel
theorem dX2_answer_65 : decode cX2_answer 65 = .ok (.if_icmp .ne 10, 3) := by decide +kernel
theorem dX2_answer_68 : decode cX2_answer 68 = .ok (.iload 5, 2) := by decide +kernel
theorem dX2_answer_70 : decode cX2_answer 70 = .ok (.iconst 1, 1) := by decide +kernel
theorem dX2_answer_71 : decode cX2_answer 71 = .ok (.isub, 1) := by decide +kernel
theorem dX2_answer_72 : decode cX2_answer 72 = .ok (.goto 5, 3) := by decide +kernel
theorem dX2_answer_75 : decode cX2_answer 75 = .ok (.iload 5, 2) := by decide +kernel
theorem dX2_answer_77 : decode cX2_answer 77 = .ok (.ireturn, 1) := by decide +kernel
theorem dX2_answer_78 : decode cX2_answer 78 = .ok (.iload_n 3, 1) := by decide +kernel
theorem dX2_answer_79 : decode cX2_answer 79 = .ok (.iconst 2, 1) := by decide +kernel
theorem dX2_answer_80 : decode cX2_answer 80 = .ok (.irem, 1) := by decide +kernel
theorem dX2_answer_81 : decode cX2_answer 81 = .ok (.iconst 1, 1) := by decide +kernel
theorem dX2_answer_82 : decode cX2_answer 82 = .ok (.if_icmp .ne 8, 3) := by decide +kernel
theorem dX2_answer_85 : decode cX2_answer 85 = .ok (.iload 4, 2) := by decide +kernel
theorem dX2_answer_87 : decode cX2_answer 87 = .ok (.goto 4, 3) := by decide +kernel
theorem dX2_answer_90 : decode cX2_answer 90 = .ok (.iconst 0, 1) := by decide +kernel
theorem dX2_answer_91 : decode cX2_answer 91 = .ok (.ireturn, 1) := by decide +kernel
theorem dX2_answer_92 : decode cX2_answer 92 = .ok (.iload_n 3, 1) := by decide +kernel
theorem dX2_answer_93 : decode cX2_answer 93 = .ok (.bipush 18, 2) := by decide +kernel
theorem dX2_answer_95 : decode cX2_answer 95 = .ok (.if_icmp .lt 10, 3) := by decide +kernel
theorem dX2_answer_98 : decode cX2_answer 98 = .ok (.iconst 2, 1) := by decide +kernel
theorem dX2_answer_99 : decode cX2_answer 99 = .ok (.iload 5, 2) := by decide +kernel
theorem dX2_answer_101 : decode cX2_answer 101 = .ok (.imul, 1) := by decide +kernel
theorem dX2_answer_102 : decode cX2_answer 102 = .ok (.goto 5, 3) := by decide +kernel
theorem dX2_answer_105 : decode cX2_answer 105 = .ok (.iload 5, 2) := by decide +kernel
theorem dX2_answer_107 : decode cX2_answer 107 = .ok (.ireturn, 1) := by decide +kernel
theorem dX2_bestQuestion_0 : decode cX2_bestQuestion 0 = .ok (.iconst (-1), 1) := by decide +kernel
theorem dX2_bestQuestion_1 : decode cX2_bestQuestion 1 = .ok (.istore_n 2, 1) := by decide +kernel
theorem dX2_bestQuestion_2 : decode cX2_bestQuestion 2 = .ok (.bipush 7, 2) := by decide +kernel
theorem dX2_bestQuestion_4 : decode cX2_bestQuestion 4 = .ok (.istore_n 3, 1) := by decide +kernel
theorem dX2_bestQuestion_5 : decode cX2_bestQuestion 5 = .ok (.iconst 0, 1) := by decide +kernel
theorem dX2_bestQuestion_6 : decode cX2_bestQuestion 6 = .ok (.istore 4, 2) := by decide +kernel
theorem dX2_bestQuestion_8 : decode cX2_bestQuestion 8 = .ok (.iload 4, 2) := by decide +kernel
theorem dX2_bestQuestion_10 : decode cX2_bestQuestion 10 = .ok (.bipush 24, 2) := by decide +kernel
theorem dX2_bestQuestion_12 : decode cX2_bestQuestion 12 = .ok (.if_icmp .ge 56, 3) := by decide +kernel
theorem dX2_bestQuestion_15 : decode cX2_bestQuestion 15 = .ok (.iconst (-1), 1) := by decide +kernel
theorem dX2_bestQuestion_16 : decode cX2_bestQuestion 16 = .ok (.istore 5, 2) := by decide +kernel
theorem dX2_bestQuestion_18 : decode cX2_bestQuestion 18 = .ok (.iload 5, 2) := by decide +kernel
theorem dX2_bestQuestion_20 : decode cX2_bestQuestion 20 = .ok (.bipush 8, 2) := by decide +kernel
theorem dX2_bestQuestion_22 : decode cX2_bestQuestion 22 = .ok (.if_icmp .gt 40, 3) := by decide +kernel
theorem dX2_bestQuestion_25 : decode cX2_bestQuestion 25 = .ok (.aload_n 0, 1) := by decide +kernel
theorem dX2_bestQuestion_26 : decode cX2_bestQuestion 26 = .ok (.iload_n 1, 1) := by decide +kernel
theorem dX2_bestQuestion_27 : decode cX2_bestQuestion 27 = .ok (.iload 5, 2) := by decide +kernel
theorem dX2_bestQuestion_29 : decode cX2_bestQuestion 29 = .ok (.iload 4, 2) := by decide +kernel
theorem dX2_bestQuestion_31 : decode cX2_bestQuestion 31 = .ok (.invokevirtual 11, 3) := by decide +kernel
theorem dX2_bestQuestion_34 : decode cX2_bestQuestion 34 = .ok (.istore 6, 2) := by decide +kernel
theorem dX2_bestQuestion_36 : decode cX2_bestQuestion 36 = .ok (.iload 6, 2) := by decide +kernel
theorem dX2_bestQuestion_38 : decode cX2_bestQuestion 38 = .ok (.iload_n 3, 1) := by decide +kernel
theorem dX2_bestQuestion_39 : decode cX2_bestQuestion 39 = .ok (.if_icmp .ge 17, 3) := by decide +kernel
theorem dX2_bestQuestion_42 : decode cX2_bestQuestion 42 = .ok (.iload 6, 2) := by decide +kernel
theorem dX2_bestQuestion_44 : decode cX2_bestQuestion 44 = .ok (.istore_n 3, 1) := by decide +kernel
theorem dX2_bestQuestion_45 : decode cX2_bestQuestion 45 = .ok (.bipush 10, 2) := by decide +kernel
theorem dX2_bestQuestion_47 : decode cX2_bestQuestion 47 = .ok (.iload 4, 2) := by decide +kernel
theorem dX2_bestQuestion_49 : decode cX2_bestQuestion 49 = .ok (.imul, 1) := by decide +kernel
theorem dX2_bestQuestion_50 : decode cX2_bestQuestion 50 = .ok (.iload 5, 2) := by decide +kernel
theorem dX2_bestQuestion_52 : decode cX2_bestQuestion 52 = .ok (.iadd, 1) := by decide +kernel
theorem dX2_bestQuestion_53 : decode cX2_bestQuestion 53 = .ok (.iconst 1, 1) := by decide +kernel
theorem dX2_bestQuestion_54 : decode cX2_bestQuestion 54 = .ok (.iadd, 1) := by decide +kernel
theorem dX2_bestQuestion_55 : decode cX2_bestQuestion 55 = .ok (.istore_n 2, 1) := by decide +kernel
theorem dX2_bestQuestion_56 : decode cX2_bestQuestion 56 = .ok (.iinc 5 1, 3) := by decide +kernel
theorem dX2_bestQuestion_59 : decode cX2_bestQuestion 59 = .ok (.goto (-41), 3) := by decide +kernel
theorem dX2_bestQuestion_62 : decode cX2_bestQuestion 62 = .ok (.iinc 4 1, 3) := by decide +kernel
theorem dX2_bestQuestion_65 : decode cX2_bestQuestion 65 = .ok (.goto (-57), 3) := by decide +kernel
theorem dX2_bestQuestion_68 : decode cX2_bestQuestion 68 = .ok (.iload_n 2, 1) := by decide +kernel
theorem dX2_bestQuestion_69 : decode cX2_bestQuestion 69 = .ok (.ireturn, 1) := by decide +kernel
theorem dX3_init_0 : decode cX3_init 0 = .ok (.aload_n 0, 1) := by decide +kernel
theorem dX3_init_1 : decode cX3_init 1 = .ok (.invokespecial 5, 3) := by decide +kernel
theorem dX3_init_4 : decode cX3_init 4 = .ok (.aload_n 0, 1) := by decide +kernel
theorem dX3_init_5 : decode cX3_init 5 = .ok (.bipush 40, 2) := by decide +kernel
theorem dX3_init_7 : decode cX3_init 7 = .ok (.newarray .int, 2) := by decide +kernel
theorem dX3_init_9 : decode cX3_init 9 = .ok (.putfield 11, 3) := by decide +kernel
theorem dX3_init_12 : decode cX3_init 12 = .ok (.aload_n 0, 1) := by decide +kernel
theorem dX3_init_13 : decode cX3_init 13 = .ok (.sipush 256, 3) := by decide +kernel
theorem dX3_init_16 : decode cX3_init 16 = .ok (.newarray .int, 2) := by decide +kernel
theorem dX3_init_18 : decode cX3_init 18 = .ok (.putfield 15, 3) := by decide +kernel
theorem dX3_init_21 : decode cX3_init 21 = .ok (.aload_n 0, 1) := by decide +kernel
theorem dX3_init_22 : decode cX3_init 22 = .ok (.sipush 256, 3) := by decide +kernel
theorem dX3_init_25 : decode cX3_init 25 = .ok (.newarray .int, 2) := by decide +kernel
theorem dX3_init_27 : decode cX3_init 27 = .ok (.putfield 18, 3) := by decide +kernel
theorem dX3_init_30 : decode cX3_init 30 = .ok (.aload_n 0, 1) := by decide +kernel
theorem dX3_init_31 : decode cX3_init 31 = .ok (.iconst 0, 1) := by decide +kernel
theorem dX3_init_32 : decode cX3_init 32 = .ok (.putfield 21, 3) := by decide +kernel
theorem dX3_init_35 : decode cX3_init 35 = .ok (.aload_n 0, 1) := by decide +kernel
theorem dX3_init_36 : decode cX3_init 36 = .ok (.iconst (-1), 1) := by decide +kernel
theorem dX3_init_37 : decode cX3_init 37 = .ok (.putfield 25, 3) := by decide +kernel
theorem dX3_init_40 : decode cX3_init 40 = .ok (.return_, 1) := by decide +kernel
theorem dX3_make_0 : decode cX3_make 0 = .ok (.aload_n 0, 1) := by decide +kernel
theorem dX3_make_1 : decode cX3_make 1 = .ok (.aload_n 1, 1) := by decide +kernel
theorem dX3_make_2 : decode cX3_make 2 = .ok (.iload_n 2, 1) := by decide +kernel
theorem dX3_make_3 : decode cX3_make 3 = .ok (.iload_n 3, 1) := by decide +kernel
theorem dX3_make_4 : decode cX3_make 4 = .ok (.invokevirtual 28, 3) := by decide +kernel
theorem dX3_make_7 : decode cX3_make 7 = .ok (.putfield 21, 3) := by decide +kernel
theorem dX3_make_10 : decode cX3_make 10 = .ok (.iconst 0, 1) := by decide +kernel
theorem dX3_make_11 : decode cX3_make 11 = .ok (.istore 4, 2) := by decide +kernel
theorem dX3_make_13 : decode cX3_make 13 = .ok (.iload 4, 2) := by decide +kernel
theorem dX3_make_15 : decode cX3_make 15 = .ok (.bipush 40, 2) := by decide +kernel
theorem dX3_make_17 : decode cX3_make 17 = .ok (.if_icmp .ge 35, 3) := by decide +kernel
theorem dX3_make_20 : decode cX3_make 20 = .ok (.aload_n 0, 1) := by decide +kernel
theorem dX3_make_21 : decode cX3_make 21 = .ok (.getfield 11, 3) := by decide +kernel
theorem dX3_make_24 : decode cX3_make 24 = .ok (.iload 4, 2) := by decide +kernel
theorem dX3_make_26 : decode cX3_make 26 = .ok (.aload_n 1, 1) := by decide +kernel
theorem dX3_make_27 : decode cX3_make 27 = .ok (.iload_n 2, 1) := by decide +kernel
theorem dX3_make_28 : decode cX3_make 28 = .ok (.aload_n 0, 1) := by decide +kernel
theorem dX3_make_29 : decode cX3_make 29 = .ok (.getfield 21, 3) := by decide +kernel
theorem dX3_make_32 : decode cX3_make 32 = .ok (.aload_n 1, 1) := by decide +kernel
theorem dX3_make_33 : decode cX3_make 33 = .ok (.getfield 33, 3) := by decide +kernel
theorem dX3_make_36 : decode cX3_make 36 = .ok (.getfield 37, 3) := by decide +kernel
theorem dX3_make_39 : decode cX3_make 39 = .ok (.iload 4, 2) := by decide +kernel
theorem dX3_make_41 : decode cX3_make 41 = .ok (.iadd, 1) := by decide +kernel
theorem dX3_make_42 : decode cX3_make 42 = .ok (.invokevirtual 42, 3) := by decide +kernel
theorem dX3_make_45 : decode cX3_make 45 = .ok (.iastore, 1) := by decide +kernel
theorem dX3_make_46 : decode cX3_make 46 = .ok (.iinc 4 1, 3) := by decide +kernel
theorem dX3_make_49 : decode cX3_make 49 = .ok (.goto (-36), 3) := by decide +kernel
theorem dX3_make_52 : decode cX3_make 52 = .ok (.iconst 0, 1) := by decide +kernel
theorem dX3_make_53 : decode cX3_make 53 = .ok (.istore 4, 2) := by decide +kernel
theorem dX3_make_55 : decode cX3_make 55 = .ok (.iload 4, 2) := by decide +kernel
theorem dX3_make_57 : decode cX3_make 57 = .ok (.sipush 256, 3) := by decide +kernel
theorem dX3_make_60 : decode cX3_make 60 = .ok (.if_icmp .ge 22, 3) := by decide +kernel
theorem dX3_make_63 : decode cX3_make 63 = .ok (.aload_n 0, 1) := by decide +kernel
theorem dX3_make_64 : decode cX3_make 64 = .ok (.getfield 15, 3) := by decide +kernel
theorem dX3_make_67 : decode cX3_make 67 = .ok (.iload 4, 2) := by decide +kernel
theorem dX3_make_69 : decode cX3_make 69 = .ok (.aload_n 0, 1) := by decide +kernel
theorem dX3_make_70 : decode cX3_make 70 = .ok (.iload 4, 2) := by decide +kernel
theorem dX3_make_72 : decode cX3_make 72 = .ok (.invokevirtual 45, 3) := by decide +kernel
theorem dX3_make_75 : decode cX3_make 75 = .ok (.iastore, 1) := by decide +kernel
theorem dX3_make_76 : decode cX3_make 76 = .ok (.iinc 4 1, 3) := by decide +kernel
theorem dX3_make_79 : decode cX3_make 79 = .ok (.goto (-24), 3) := by decide +kernel
theorem dX3_make_82 : decode cX3_make 82 = .ok (.aload_n 0, 1) := by decide +kernel
theorem dX3_make_83 : decode cX3_make 83 = .ok (.getfield 21, 3) := by decide +kernel
theorem dX3_make_86 : decode cX3_make 86 = .ok (.iconst 0, 1) := by decide +kernel
theorem dX3_make_87 : decode cX3_make 87 = .ok (.sipush 255, 3) := by decide +kernel
theorem dX3_make_90 : decode cX3_make 90 = .ok (.invokestatic 49, 3) := by decide +kernel
theorem dX3_make_93 : decode cX3_make 93 = .ok (.ifCond .eq 15, 3) := by decide +kernel
theorem dX3_make_96 : decode cX3_make 96 = .ok (.aload_n 0, 1) := by decide +kernel
theorem dX3_make_97 : decode cX3_make 97 = .ok (.getfield 15, 3) := by decide +kernel
theorem dX3_make_100 : decode cX3_make 100 = .ok (.aload_n 0, 1) := by decide +kernel
theorem dX3_make_101 : decode cX3_make 101 = .ok (.getfield 21, 3) := by decide +kernel
theorem dX3_make_104 : decode cX3_make 104 = .ok (.iaload, 1) := by decide +kernel
theorem dX3_make_105 : decode cX3_make 105 = .ok (.goto 5, 3) := by decide +kernel
theorem dX3_make_108 : decode cX3_make 108 = .ok (.bipush 41, 2) := by decide +kernel
theorem dX3_make_110 : decode cX3_make 110 = .ok (.istore 4, 2) := by decide +kernel
theorem dX3_make_112 : decode cX3_make 112 = .ok (.aload_n 0, 1) := by decide +kernel
theorem dX3_make_113 : decode cX3_make 113 = .ok (.iload 4, 2) := by decide +kernel
theorem dX3_make_115 : decode cX3_make 115 = .ok (.bipush 41, 2) := by decide +kernel
theorem dX3_make_117 : decode cX3_make 117 = .ok (.if_icmp .ne 7, 3) := by decide +kernel
theorem dX3_make_120 : decode cX3_make 120 = .ok (.iconst (-1), 1) := by decide +kernel
theorem dX3_make_121 : decode cX3_make 121 = .ok (.goto 5, 3) := by decide +kernel
theorem dX3_make_124 : decode cX3_make 124 = .ok (.iload 4, 2) := by decide +kernel
theorem dX3_make_126 : decode cX3_make 126 = .ok (.putfield 25, 3) := by decide +kernel
theorem dX3_make_129 : decode cX3_make 129 = .ok (.aload_n 0, 1) := by decide +kernel
theorem dX3_make_130 : decode cX3_make 130 = .ok (.getfield 25, 3) := by decide +kernel
theorem dX3_make_133 : decode cX3_make 133 = .ok (.ireturn, 1) := by decide +kernel
theorem dX3_soonestOf_0 : decode cX3_soonestOf 0 = .ok (.iload_n 1, 1) := by decide +kernel
theorem dX3_soonestOf_1 : decode cX3_soonestOf 1 = .ok (.ifCond .ne 7, 3) := by decide +kernel
theorem dX3_soonestOf_4 : decode cX3_soonestOf 4 = .ok (.iconst 0, 1) := by decide +kernel
theorem dX3_soonestOf_5 : decode cX3_soonestOf 5 = .ok (.goto 5, 3) := by decide +kernel
theorem dX3_soonestOf_8 : decode cX3_soonestOf 8 = .ok (.bipush 41, 2) := by decide +kernel
theorem dX3_soonestOf_10 : decode cX3_soonestOf 10 = .ok (.istore_n 2, 1) := by decide +kernel
theorem dX3_soonestOf_11 : decode cX3_soonestOf 11 = .ok (.iconst 0, 1) := by decide +kernel
theorem dX3_soonestOf_12 : decode cX3_soonestOf 12 = .ok (.istore_n 3, 1) := by decide +kernel
theorem dX3_soonestOf_13 : decode cX3_soonestOf 13 = .ok (.iload_n 3, 1) := by decide +kernel
theorem dX3_soonestOf_14 : decode cX3_soonestOf 14 = .ok (.bipush 8, 2) := by decide +kernel
theorem dX3_soonestOf_16 : decode cX3_soonestOf 16 = .ok (.if_icmp .ge 47, 3) := by decide +kernel
theorem dX3_soonestOf_19 : decode cX3_soonestOf 19 = .ok (.iconst 1, 1) := by decide +kernel
theorem dX3_soonestOf_20 : decode cX3_soonestOf 20 = .ok (.iload_n 3, 1) := by decide +kernel
theorem dX3_soonestOf_21 : decode cX3_soonestOf 21 = .ok (.ishl, 1) := by decide +kernel
theorem dX3_soonestOf_22 : decode cX3_soonestOf 22 = .ok (.istore 4, 2) := by decide +kernel
theorem dX3_soonestOf_24 : decode cX3_soonestOf 24 = .ok (.iload_n 1, 1) := by decide +kernel
theorem dX3_soonestOf_25 : decode cX3_soonestOf 25 = .ok (.aload_n 0, 1) := by decide +kernel
theorem dX3_soonestOf_26 : decode cX3_soonestOf 26 = .ok (.getfield 21, 3) := by decide +kernel
theorem dX3_soonestOf_29 : decode cX3_soonestOf 29 = .ok (.iand, 1) := by decide +kernel
theorem dX3_soonestOf_30 : decode cX3_soonestOf 30 = .ok (.iload 4, 2) := by decide +kernel
theorem dX3_soonestOf_32 : decode cX3_soonestOf 32 = .ok (.iand, 1) := by decide +kernel
theorem dX3_soonestOf_33 : decode cX3_soonestOf 33 = .ok (.ifCond .eq 24, 3) := by decide +kernel
theorem dX3_soonestOf_36 : decode cX3_soonestOf 36 = .ok (.iload_n 2, 1) := by decide +kernel
theorem dX3_soonestOf_37 : decode cX3_soonestOf 37 = .ok (.aload_n 0, 1) := by decide +kernel
theorem dX3_soonestOf_38 : decode cX3_soonestOf 38 = .ok (.iload_n 3, 1) := by decide +kernel
theorem dX3_soonestOf_39 : decode cX3_soonestOf 39 = .ok (.aload_n 0, 1) := by decide +kernel
theorem dX3_soonestOf_40 : decode cX3_soonestOf 40 = .ok (.getfield 15, 3) := by decide +kernel
theorem dX3_soonestOf_43 : decode cX3_soonestOf 43 = .ok (.iload_n 1, 1) := by decide +kernel
theorem dX3_soonestOf_44 : decode cX3_soonestOf 44 = .ok (.iload 4, 2) := by decide +kernel
theorem dX3_soonestOf_46 : decode cX3_soonestOf 46 = .ok (.ixor, 1) := by decide +kernel
theorem dX3_soonestOf_47 : decode cX3_soonestOf 47 = .ok (.iaload, 1) := by decide +kernel
theorem dX3_soonestOf_48 : decode cX3_soonestOf 48 = .ok (.invokevirtual 53, 3) := by decide +kernel
theorem dX3_soonestOf_51 : decode cX3_soonestOf 51 = .ok (.iconst 1, 1) := by decide +kernel
theorem dX3_soonestOf_52 : decode cX3_soonestOf 52 = .ok (.iadd, 1) := by decide +kernel
theorem dX3_soonestOf_53 : decode cX3_soonestOf 53 = .ok (.invokestatic 56, 3) := by decide +kernel
theorem dX3_soonestOf_56 : decode cX3_soonestOf 56 = .ok (.istore_n 2, 1) := by decide +kernel
theorem dX3_soonestOf_57 : decode cX3_soonestOf 57 = .ok (.iinc 3 1, 3) := by decide +kernel
theorem dX3_soonestOf_60 : decode cX3_soonestOf 60 = .ok (.goto (-47), 3) := by decide +kernel
theorem dX3_soonestOf_63 : decode cX3_soonestOf 63 = .ok (.iload_n 2, 1) := by decide +kernel
theorem dX3_soonestOf_64 : decode cX3_soonestOf 64 = .ok (.ireturn, 1) := by decide +kernel
theorem dX3_firstMinute_0 : decode cX3_firstMinute 0 = .ok (.iload_n 2, 1) := by decide +kernel
theorem dX3_firstMinute_1 : decode cX3_firstMinute 1 = .ok (.iconst 0, 1) := by decide +kernel
theorem dX3_firstMinute_2 : decode cX3_firstMinute 2 = .ok (.invokestatic 61, 3) := by decide +kernel
theorem dX3_firstMinute_5 : decode cX3_firstMinute 5 = .ok (.istore_n 3, 1) := by decide +kernel
theorem dX3_firstMinute_6 : decode cX3_firstMinute 6 = .ok (.iload_n 3, 1) := by decide +kernel
theorem dX3_firstMinute_7 : decode cX3_firstMinute 7 = .ok (.bipush 40, 2) := by decide +kernel
theorem dX3_firstMinute_9 : decode cX3_firstMinute 9 = .ok (.if_icmp .ge 25, 3) := by decide +kernel
theorem dX3_firstMinute_12 : decode cX3_firstMinute 12 = .ok (.aload_n 0, 1) := by decide +kernel
theorem dX3_firstMinute_13 : decode cX3_firstMinute 13 = .ok (.getfield 11, 3) := by decide +kernel
theorem dX3_firstMinute_16 : decode cX3_firstMinute 16 = .ok (.iload_n 3, 1) := by decide +kernel
theorem dX3_firstMinute_17 : decode cX3_firstMinute 17 = .ok (.iaload, 1) := by decide +kernel
theorem dX3_firstMinute_18 : decode cX3_firstMinute 18 = .ok (.iload_n 1, 1) := by decide +kernel
theorem dX3_firstMinute_19 : decode cX3_firstMinute 19 = .ok (.ishr, 1) := by decide +kernel
theorem dX3_firstMinute_20 : decode cX3_firstMinute 20 = .ok (.iconst 1, 1) := by decide +kernel
theorem dX3_firstMinute_21 : decode cX3_firstMinute 21 = .ok (.iand, 1) := by decide +kernel
theorem dX3_firstMinute_22 : decode cX3_firstMinute 22 = .ok (.iconst 1, 1) := by decide +kernel
theorem dX3_firstMinute_23 : decode cX3_firstMinute 23 = .ok (.if_icmp .ne 5, 3) := by decide +kernel
theorem dX3_firstMinute_26 : decode cX3_firstMinute 26 = .ok (.iload_n 3, 1) := by decide +kernel
theorem dX3_firstMinute_27 : decode cX3_firstMinute 27 = .ok (.ireturn, 1) := by decide +kernel
theorem dX3_firstMinute_28 : decode cX3_firstMinute 28 = .ok (.iinc 3 1, 3) := by decide +kernel
theorem dX3_firstMinute_31 : decode cX3_firstMinute 31 = .ok (.goto (-25), 3) := by decide +kernel
theorem dX3_firstMinute_34 : decode cX3_firstMinute 34 = .ok (.bipush 40, 2) := by decide +kernel
theorem dX3_firstMinute_36 : decode cX3_firstMinute 36 = .ok (.ireturn, 1) := by decide +kernel
theorem dX3_deed_0 : decode cX3_deed 0 = .ok (.sipush 255, 3) := by decide +kernel
theorem dX3_deed_3 : decode cX3_deed 3 = .ok (.istore_n 2, 1) := by decide +kernel
theorem dX3_deed_4 : decode cX3_deed 4 = .ok (.iload_n 2, 1) := by decide +kernel
theorem dX3_deed_5 : decode cX3_deed 5 = .ok (.ifCond .lt 20, 3) := by decide +kernel
theorem dX3_deed_8 : decode cX3_deed 8 = .ok (.aload_n 0, 1) := by decide +kernel
theorem dX3_deed_9 : decode cX3_deed 9 = .ok (.getfield 18, 3) := by decide +kernel
theorem dX3_deed_12 : decode cX3_deed 12 = .ok (.iload_n 2, 1) := by decide +kernel
theorem dX3_deed_13 : decode cX3_deed 13 = .ok (.aload_n 0, 1) := by decide +kernel
theorem dX3_deed_14 : decode cX3_deed 14 = .ok (.iload_n 2, 1) := by decide +kernel
theorem dX3_deed_15 : decode cX3_deed 15 = .ok (.invokevirtual 64, 3) := by decide +kernel
theorem dX3_deed_18 : decode cX3_deed 18 = .ok (.iastore, 1) := by decide +kernel
theorem dX3_deed_19 : decode cX3_deed 19 = .ok (.iinc 2 (-1), 3) := by decide +kernel
theorem dX3_deed_22 : decode cX3_deed 22 = .ok (.goto (-18), 3) := by decide +kernel
theorem dX3_deed_25 : decode cX3_deed 25 = .ok (.iconst 0, 1) := by decide +kernel
theorem dX3_deed_26 : decode cX3_deed 26 = .ok (.istore_n 2, 1) := by decide +kernel
theorem dX3_deed_27 : decode cX3_deed 27 = .ok (.iconst (-1), 1) := by decide +kernel
theorem dX3_deed_28 : decode cX3_deed 28 = .ok (.istore_n 3, 1) := by decide +kernel
theorem dX3_deed_29 : decode cX3_deed 29 = .ok (.iconst 0, 1) := by decide +kernel
theorem dX3_deed_30 : decode cX3_deed 30 = .ok (.istore 4, 2) := by decide +kernel
theorem dX3_deed_32 : decode cX3_deed 32 = .ok (.iload 4, 2) := by decide +kernel
theorem dX3_deed_34 : decode cX3_deed 34 = .ok (.iload_n 1, 1) := by decide +kernel
theorem dX3_deed_35 : decode cX3_deed 35 = .ok (.if_icmp .gt 48, 3) := by decide +kernel
theorem dX3_deed_38 : decode cX3_deed 38 = .ok (.iload 4, 2) := by decide +kernel
theorem dX3_deed_40 : decode cX3_deed 40 = .ok (.aload_n 0, 1) := by decide +kernel
theorem dX3_deed_41 : decode cX3_deed 41 = .ok (.getfield 25, 3) := by decide +kernel
theorem dX3_deed_44 : decode cX3_deed 44 = .ok (.if_icmp .ge 39, 3) := by decide +kernel
theorem dX3_deed_47 : decode cX3_deed 47 = .ok (.iload 4, 2) := by decide +kernel
theorem dX3_deed_49 : decode cX3_deed 49 = .ok (.bipush 40, 2) := by decide +kernel
theorem dX3_deed_51 : decode cX3_deed 51 = .ok (.if_icmp .ge 32, 3) := by decide +kernel
theorem dX3_deed_54 : decode cX3_deed 54 = .ok (.aload_n 0, 1) := by decide +kernel
theorem dX3_deed_55 : decode cX3_deed 55 = .ok (.iload_n 2, 1) := by decide +kernel
theorem dX3_deed_56 : decode cX3_deed 56 = .ok (.iload 4, 2) := by decide +kernel
theorem dX3_deed_58 : decode cX3_deed 58 = .ok (.invokevirtual 67, 3) := by decide +kernel
theorem dX3_deed_61 : decode cX3_deed 61 = .ok (.istore_n 3, 1) := by decide +kernel
theorem dX3_deed_62 : decode cX3_deed 62 = .ok (.iload_n 2, 1) := by decide +kernel
theorem dX3_deed_63 : decode cX3_deed 63 = .ok (.iload_n 3, 1) := by decide +kernel
theorem dX3_deed_64 : decode cX3_deed 64 = .ok (.iconst (-1), 1) := by decide +kernel
theorem dX3_deed_65 : decode cX3_deed 65 = .ok (.if_icmp .ne 7, 3) := by decide +kernel
theorem dX3_deed_68 : decode cX3_deed 68 = .ok (.iconst 0, 1) := by decide +kernel
theorem dX3_deed_69 : decode cX3_deed 69 = .ok (.goto 6, 3) := by decide +kernel
theorem dX3_deed_72 : decode cX3_deed 72 = .ok (.iconst 1, 1) := by decide +kernel
theorem dX3_deed_73 : decode cX3_deed 73 = .ok (.iload_n 3, 1) := by decide +kernel
theorem dX3_deed_74 : decode cX3_deed 74 = .ok (.ishl, 1) := by decide +kernel
theorem dX3_deed_75 : decode cX3_deed 75 = .ok (.ior, 1) := by decide +kernel
theorem dX3_deed_76 : decode cX3_deed 76 = .ok (.istore_n 2, 1) := by decide +kernel
theorem dX3_deed_77 : decode cX3_deed 77 = .ok (.iinc 4 1, 3) := by decide +kernel
theorem dX3_deed_80 : decode cX3_deed 80 = .ok (.goto (-48), 3) := by decide +kernel
theorem dX3_deed_83 : decode cX3_deed 83 = .ok (.iload_n 3, 1) := by decide +kernel
theorem dX3_deed_84 : decode cX3_deed 84 = .ok (.ireturn, 1) := by decide +kernel
theorem dX3_latestOf_0 : decode cX3_latestOf 0 = .ok (.iload_n 1, 1) := by decide +kernel
theorem dX3_latestOf_1 : decode cX3_latestOf 1 = .ok (.aload_n 0, 1) := by decide +kernel
theorem dX3_latestOf_2 : decode cX3_latestOf 2 = .ok (.getfield 21, 3) := by decide +kernel
theorem dX3_latestOf_5 : decode cX3_latestOf 5 = .ok (.if_icmp .ne 10, 3) := by decide +kernel
theorem dX3_latestOf_8 : decode cX3_latestOf 8 = .ok (.aload_n 0, 1) := by decide +kernel
theorem dX3_latestOf_9 : decode cX3_latestOf 9 = .ok (.getfield 25, 3) := by decide +kernel
theorem dX3_latestOf_12 : decode cX3_latestOf 12 = .ok (.goto 4, 3) := by decide +kernel
theorem dX3_latestOf_15 : decode cX3_latestOf 15 = .ok (.iconst (-1), 1) := by decide +kernel
theorem dX3_latestOf_16 : decode cX3_latestOf 16 = .ok (.istore_n 2, 1) := by decide +kernel
theorem dX3_latestOf_17 : decode cX3_latestOf 17 = .ok (.iconst 0, 1) := by decide +kernel
theorem dX3_latestOf_18 : decode cX3_latestOf 18 = .ok (.istore_n 3, 1) := by decide +kernel
theorem dX3_latestOf_19 : decode cX3_latestOf 19 = .ok (.iload_n 3, 1) := by decide +kernel
theorem dX3_latestOf_20 : decode cX3_latestOf 20 = .ok (.bipush 8, 2) := by decide +kernel
theorem dX3_latestOf_22 : decode cX3_latestOf 22 = .ok (.if_icmp .ge 47, 3) := by decide +kernel
theorem dX3_latestOf_25 : decode cX3_latestOf 25 = .ok (.iconst 1, 1) := by decide +kernel
theorem dX3_latestOf_26 : decode cX3_latestOf 26 = .ok (.iload_n 3, 1) := by decide +kernel
theorem dX3_latestOf_27 : decode cX3_latestOf 27 = .ok (.ishl, 1) := by decide +kernel
theorem dX3_latestOf_28 : decode cX3_latestOf 28 = .ok (.istore 4, 2) := by decide +kernel
theorem dX3_latestOf_30 : decode cX3_latestOf 30 = .ok (.aload_n 0, 1) := by decide +kernel
theorem dX3_latestOf_31 : decode cX3_latestOf 31 = .ok (.getfield 21, 3) := by decide +kernel
theorem dX3_latestOf_34 : decode cX3_latestOf 34 = .ok (.iload_n 1, 1) := by decide +kernel
theorem dX3_latestOf_35 : decode cX3_latestOf 35 = .ok (.iconst (-1), 1) := by decide +kernel
theorem dX3_latestOf_36 : decode cX3_latestOf 36 = .ok (.ixor, 1) := by decide +kernel
theorem dX3_latestOf_37 : decode cX3_latestOf 37 = .ok (.iand, 1) := by decide +kernel
theorem dX3_latestOf_38 : decode cX3_latestOf 38 = .ok (.iload 4, 2) := by decide +kernel
theorem dX3_latestOf_40 : decode cX3_latestOf 40 = .ok (.iand, 1) := by decide +kernel
theorem dX3_latestOf_41 : decode cX3_latestOf 41 = .ok (.ifCond .eq 22, 3) := by decide +kernel
theorem dX3_latestOf_44 : decode cX3_latestOf 44 = .ok (.iload_n 2, 1) := by decide +kernel
theorem dX3_latestOf_45 : decode cX3_latestOf 45 = .ok (.aload_n 0, 1) := by decide +kernel
theorem dX3_latestOf_46 : decode cX3_latestOf 46 = .ok (.iload_n 3, 1) := by decide +kernel
theorem dX3_latestOf_47 : decode cX3_latestOf 47 = .ok (.aload_n 0, 1) := by decide +kernel
theorem dX3_latestOf_48 : decode cX3_latestOf 48 = .ok (.getfield 18, 3) := by decide +kernel
theorem dX3_latestOf_51 : decode cX3_latestOf 51 = .ok (.iload_n 1, 1) := by decide +kernel
theorem dX3_latestOf_52 : decode cX3_latestOf 52 = .ok (.iload 4, 2) := by decide +kernel
theorem dX3_latestOf_54 : decode cX3_latestOf 54 = .ok (.ior, 1) := by decide +kernel
theorem dX3_latestOf_55 : decode cX3_latestOf 55 = .ok (.iaload, 1) := by decide +kernel
theorem dX3_latestOf_56 : decode cX3_latestOf 56 = .ok (.invokevirtual 70, 3) := by decide +kernel
theorem dX3_latestOf_59 : decode cX3_latestOf 59 = .ok (.invokestatic 61, 3) := by decide +kernel
theorem dX3_latestOf_62 : decode cX3_latestOf 62 = .ok (.istore_n 2, 1) := by decide +kernel
theorem dX3_latestOf_63 : decode cX3_latestOf 63 = .ok (.iinc 3 1, 3) := by decide +kernel
theorem dX3_latestOf_66 : decode cX3_latestOf 66 = .ok (.goto (-47), 3) := by decide +kernel
theorem dX3_latestOf_69 : decode cX3_latestOf 69 = .ok (.iload_n 2, 1) := by decide +kernel
theorem dX3_latestOf_70 : decode cX3_latestOf 70 = .ok (.ireturn, 1) := by decide +kernel
theorem dX3_lastMinute_0 : decode cX3_lastMinute 0 = .ok (.iload_n 2, 1) := by decide +kernel
theorem dX3_lastMinute_1 : decode cX3_lastMinute 1 = .ok (.bipush 40, 2) := by decide +kernel
theorem dX3_lastMinute_3 : decode cX3_lastMinute 3 = .ok (.invokestatic 56, 3) := by decide +kernel
theorem dX3_lastMinute_6 : decode cX3_lastMinute 6 = .ok (.iconst 1, 1) := by decide +kernel
theorem dX3_lastMinute_7 : decode cX3_lastMinute 7 = .ok (.isub, 1) := by decide +kernel
theorem dX3_lastMinute_8 : decode cX3_lastMinute 8 = .ok (.istore_n 3, 1) := by decide +kernel
theorem dX3_lastMinute_9 : decode cX3_lastMinute 9 = .ok (.iload_n 3, 1) := by decide +kernel
theorem dX3_lastMinute_10 : decode cX3_lastMinute 10 = .ok (.ifCond .lt 25, 3) := by decide +kernel
theorem dX3_lastMinute_13 : decode cX3_lastMinute 13 = .ok (.aload_n 0, 1) := by decide +kernel
theorem dX3_lastMinute_14 : decode cX3_lastMinute 14 = .ok (.getfield 11, 3) := by decide +kernel
theorem dX3_lastMinute_17 : decode cX3_lastMinute 17 = .ok (.iload_n 3, 1) := by decide +kernel
theorem dX3_lastMinute_18 : decode cX3_lastMinute 18 = .ok (.iaload, 1) := by decide +kernel
theorem dX3_lastMinute_19 : decode cX3_lastMinute 19 = .ok (.iload_n 1, 1) := by decide +kernel
theorem dX3_lastMinute_20 : decode cX3_lastMinute 20 = .ok (.ishr, 1) := by decide +kernel
theorem dX3_lastMinute_21 : decode cX3_lastMinute 21 = .ok (.iconst 1, 1) := by decide +kernel
theorem dX3_lastMinute_22 : decode cX3_lastMinute 22 = .ok (.iand, 1) := by decide +kernel
theorem dX3_lastMinute_23 : decode cX3_lastMinute 23 = .ok (.iconst 1, 1) := by decide +kernel
theorem dX3_lastMinute_24 : decode cX3_lastMinute 24 = .ok (.if_icmp .ne 5, 3) := by decide +kernel
theorem dX3_lastMinute_27 : decode cX3_lastMinute 27 = .ok (.iload_n 3, 1) := by decide +kernel
theorem dX3_lastMinute_28 : decode cX3_lastMinute 28 = .ok (.ireturn, 1) := by decide +kernel
theorem dX3_lastMinute_29 : decode cX3_lastMinute 29 = .ok (.iinc 3 (-1), 3) := by decide +kernel
theorem dX3_lastMinute_32 : decode cX3_lastMinute 32 = .ok (.goto (-23), 3) := by decide +kernel
theorem dX3_lastMinute_35 : decode cX3_lastMinute 35 = .ok (.iconst (-1), 1) := by decide +kernel
theorem dX3_lastMinute_36 : decode cX3_lastMinute 36 = .ok (.ireturn, 1) := by decide +kernel
theorem dX3_firstDeed_0 : decode cX3_firstDeed 0 = .ok (.aload_n 0, 1) := by decide +kernel
theorem dX3_firstDeed_1 : decode cX3_firstDeed 1 = .ok (.iload_n 1, 1) := by decide +kernel
theorem dX3_firstDeed_2 : decode cX3_firstDeed 2 = .ok (.iload_n 2, 1) := by decide +kernel
theorem dX3_firstDeed_3 : decode cX3_firstDeed 3 = .ok (.invokevirtual 73, 3) := by decide +kernel
theorem dX3_firstDeed_6 : decode cX3_firstDeed 6 = .ok (.ifCond .eq 5, 3) := by decide +kernel
theorem dX3_firstDeed_9 : decode cX3_firstDeed 9 = .ok (.iconst (-1), 1) := by decide +kernel
theorem dX3_firstDeed_10 : decode cX3_firstDeed 10 = .ok (.ireturn, 1) := by decide +kernel
theorem dX3_firstDeed_11 : decode cX3_firstDeed 11 = .ok (.iconst 0, 1) := by decide +kernel
theorem dX3_firstDeed_12 : decode cX3_firstDeed 12 = .ok (.istore_n 3, 1) := by decide +kernel
theorem dX3_firstDeed_13 : decode cX3_firstDeed 13 = .ok (.iload_n 3, 1) := by decide +kernel
theorem dX3_firstDeed_14 : decode cX3_firstDeed 14 = .ok (.bipush 8, 2) := by decide +kernel
theorem dX3_firstDeed_16 : decode cX3_firstDeed 16 = .ok (.if_icmp .ge 44, 3) := by decide +kernel
theorem dX3_firstDeed_19 : decode cX3_firstDeed 19 = .ok (.iconst 1, 1) := by decide +kernel
theorem dX3_firstDeed_20 : decode cX3_firstDeed 20 = .ok (.iload_n 3, 1) := by decide +kernel
theorem dX3_firstDeed_21 : decode cX3_firstDeed 21 = .ok (.ishl, 1) := by decide +kernel
theorem dX3_firstDeed_22 : decode cX3_firstDeed 22 = .ok (.istore 4, 2) := by decide +kernel
theorem dX3_firstDeed_24 : decode cX3_firstDeed 24 = .ok (.aload_n 0, 1) := by decide +kernel
theorem dX3_firstDeed_25 : decode cX3_firstDeed 25 = .ok (.getfield 11, 3) := by decide +kernel
theorem dX3_firstDeed_28 : decode cX3_firstDeed 28 = .ok (.iload_n 2, 1) := by decide +kernel
theorem dX3_firstDeed_29 : decode cX3_firstDeed 29 = .ok (.iaload, 1) := by decide +kernel
theorem dX3_firstDeed_30 : decode cX3_firstDeed 30 = .ok (.iload_n 1, 1) := by decide +kernel
theorem dX3_firstDeed_31 : decode cX3_firstDeed 31 = .ok (.iconst (-1), 1) := by decide +kernel
theorem dX3_firstDeed_32 : decode cX3_firstDeed 32 = .ok (.ixor, 1) := by decide +kernel
theorem dX3_firstDeed_33 : decode cX3_firstDeed 33 = .ok (.iand, 1) := by decide +kernel
theorem dX3_firstDeed_34 : decode cX3_firstDeed 34 = .ok (.iload 4, 2) := by decide +kernel
theorem dX3_firstDeed_36 : decode cX3_firstDeed 36 = .ok (.iand, 1) := by decide +kernel
theorem dX3_firstDeed_37 : decode cX3_firstDeed 37 = .ok (.ifCond .eq 17, 3) := by decide +kernel
theorem dX3_firstDeed_40 : decode cX3_firstDeed 40 = .ok (.aload_n 0, 1) := by decide +kernel
theorem dX3_firstDeed_41 : decode cX3_firstDeed 41 = .ok (.iload_n 1, 1) := by decide +kernel
theorem dX3_firstDeed_42 : decode cX3_firstDeed 42 = .ok (.iload 4, 2) := by decide +kernel
theorem dX3_firstDeed_44 : decode cX3_firstDeed 44 = .ok (.ior, 1) := by decide +kernel
theorem dX3_firstDeed_45 : decode cX3_firstDeed 45 = .ok (.iload_n 2, 1) := by decide +kernel
theorem dX3_firstDeed_46 : decode cX3_firstDeed 46 = .ok (.invokevirtual 73, 3) := by decide +kernel
theorem dX3_firstDeed_49 : decode cX3_firstDeed 49 = .ok (.ifCond .eq 5, 3) := by decide +kernel
theorem dX3_firstDeed_52 : decode cX3_firstDeed 52 = .ok (.iload_n 3, 1) := by decide +kernel
theorem dX3_firstDeed_53 : decode cX3_firstDeed 53 = .ok (.ireturn, 1) := by decide +kernel
theorem dX3_firstDeed_54 : decode cX3_firstDeed 54 = .ok (.iinc 3 1, 3) := by decide +kernel
theorem dX3_firstDeed_57 : decode cX3_firstDeed 57 = .ok (.goto (-44), 3) := by decide +kernel
theorem dX3_firstDeed_60 : decode cX3_firstDeed 60 = .ok (.iconst (-1), 1) := by decide +kernel
theorem dX3_firstDeed_61 : decode cX3_firstDeed 61 = .ok (.ireturn, 1) := by decide +kernel
theorem dX3_leavesTime_0 : decode cX3_leavesTime 0 = .ok (.iload_n 1, 1) := by decide +kernel
theorem dX3_leavesTime_1 : decode cX3_leavesTime 1 = .ok (.iconst 0, 1) := by decide +kernel
theorem dX3_leavesTime_2 : decode cX3_leavesTime 2 = .ok (.sipush 255, 3) := by decide +kernel
theorem dX3_leavesTime_5 : decode cX3_leavesTime 5 = .ok (.invokestatic 49, 3) := by decide +kernel
theorem dX3_leavesTime_8 : decode cX3_leavesTime 8 = .ok (.ifCond .eq 17, 3) := by decide +kernel
theorem dX3_leavesTime_11 : decode cX3_leavesTime 11 = .ok (.aload_n 0, 1) := by decide +kernel
theorem dX3_leavesTime_12 : decode cX3_leavesTime 12 = .ok (.getfield 18, 3) := by decide +kernel
theorem dX3_leavesTime_15 : decode cX3_leavesTime 15 = .ok (.iload_n 1, 1) := by decide +kernel
theorem dX3_leavesTime_16 : decode cX3_leavesTime 16 = .ok (.iaload, 1) := by decide +kernel
theorem dX3_leavesTime_17 : decode cX3_leavesTime 17 = .ok (.iload_n 2, 1) := by decide +kernel
theorem dX3_leavesTime_18 : decode cX3_leavesTime 18 = .ok (.if_icmp .le 7, 3) := by decide +kernel
theorem dX3_leavesTime_21 : decode cX3_leavesTime 21 = .ok (.iconst 1, 1) := by decide +kernel
theorem dX3_leavesTime_22 : decode cX3_leavesTime 22 = .ok (.goto 4, 3) := by decide +kernel
theorem dX3_leavesTime_25 : decode cX3_leavesTime 25 = .ok (.iconst 0, 1) := by decide +kernel
theorem dX3_leavesTime_26 : decode cX3_leavesTime 26 = .ok (.ireturn, 1) := by decide +kernel
theorem dX4_init_0 : decode cX4_init 0 = .ok (.aload_n 0, 1) := by decide +kernel
theorem dX4_init_1 : decode cX4_init 1 = .ok (.invokespecial 3, 3) := by decide +kernel
theorem dX4_init_4 : decode cX4_init 4 = .ok (.aload_n 0, 1) := by decide +kernel
theorem dX4_init_5 : decode cX4_init 5 = .ok (.iconst 0, 1) := by decide +kernel
theorem dX4_init_6 : decode cX4_init 6 = .ok (.putfield 9, 3) := by decide +kernel
theorem dX4_init_9 : decode cX4_init 9 = .ok (.aload_n 0, 1) := by decide +kernel
theorem dX4_init_10 : decode cX4_init 10 = .ok (.bipush 24, 2) := by decide +kernel
theorem dX4_init_12 : decode cX4_init 12 = .ok (.newarray .int, 2) := by decide +kernel
theorem dX4_init_14 : decode cX4_init 14 = .ok (.putfield 15, 3) := by decide +kernel
theorem dX4_init_17 : decode cX4_init 17 = .ok (.return_, 1) := by decide +kernel
theorem dX4_cell_0 : decode cX4_cell 0 = .ok (.iload_n 1, 1) := by decide +kernel
theorem dX4_cell_1 : decode cX4_cell 1 = .ok (.iconst 4, 1) := by decide +kernel
theorem dX4_cell_2 : decode cX4_cell 2 = .ok (.imul, 1) := by decide +kernel
theorem dX4_cell_3 : decode cX4_cell 3 = .ok (.iload_n 2, 1) := by decide +kernel
theorem dX4_cell_4 : decode cX4_cell 4 = .ok (.iadd, 1) := by decide +kernel
theorem dX4_cell_5 : decode cX4_cell 5 = .ok (.istore_n 3, 1) := by decide +kernel
theorem dX4_cell_6 : decode cX4_cell 6 = .ok (.iload_n 3, 1) := by decide +kernel
theorem dX4_cell_7 : decode cX4_cell 7 = .ok (.iconst 0, 1) := by decide +kernel
theorem dX4_cell_8 : decode cX4_cell 8 = .ok (.aload_n 0, 1) := by decide +kernel
theorem dX4_cell_9 : decode cX4_cell 9 = .ok (.getfield 15, 3) := by decide +kernel
theorem dX4_cell_12 : decode cX4_cell 12 = .ok (.arraylength, 1) := by decide +kernel
theorem dX4_cell_13 : decode cX4_cell 13 = .ok (.iconst 1, 1) := by decide +kernel
theorem dX4_cell_14 : decode cX4_cell 14 = .ok (.isub, 1) := by decide +kernel
theorem dX4_cell_15 : decode cX4_cell 15 = .ok (.invokestatic 19, 3) := by decide +kernel
theorem dX4_cell_18 : decode cX4_cell 18 = .ok (.ifCond .eq 12, 3) := by decide +kernel
theorem dX4_cell_21 : decode cX4_cell 21 = .ok (.aload_n 0, 1) := by decide +kernel
theorem dX4_cell_22 : decode cX4_cell 22 = .ok (.getfield 15, 3) := by decide +kernel
theorem dX4_cell_25 : decode cX4_cell 25 = .ok (.iload_n 3, 1) := by decide +kernel
theorem dX4_cell_26 : decode cX4_cell 26 = .ok (.iaload, 1) := by decide +kernel
theorem dX4_cell_27 : decode cX4_cell 27 = .ok (.goto 4, 3) := by decide +kernel
theorem dX4_cell_30 : decode cX4_cell 30 = .ok (.iconst 0, 1) := by decide +kernel
theorem dX4_cell_31 : decode cX4_cell 31 = .ok (.ireturn, 1) := by decide +kernel
theorem dX4_append_0 : decode cX4_append 0 = .ok (.aload_n 0, 1) := by decide +kernel
theorem dX4_append_1 : decode cX4_append 1 = .ok (.getfield 9, 3) := by decide +kernel
theorem dX4_append_4 : decode cX4_append 4 = .ok (.iconst 4, 1) := by decide +kernel
theorem dX4_append_5 : decode cX4_append 5 = .ok (.imul, 1) := by decide +kernel
theorem dX4_append_6 : decode cX4_append 6 = .ok (.istore 5, 2) := by decide +kernel
theorem dX4_append_8 : decode cX4_append 8 = .ok (.iload 5, 2) := by decide +kernel
theorem dX4_append_10 : decode cX4_append 10 = .ok (.iconst 0, 1) := by decide +kernel
theorem dX4_append_11 : decode cX4_append 11 = .ok (.aload_n 0, 1) := by decide +kernel
theorem dX4_append_12 : decode cX4_append 12 = .ok (.getfield 15, 3) := by decide +kernel
theorem dX4_append_15 : decode cX4_append 15 = .ok (.arraylength, 1) := by decide +kernel
theorem dX4_append_16 : decode cX4_append 16 = .ok (.iconst 4, 1) := by decide +kernel
theorem dX4_append_17 : decode cX4_append 17 = .ok (.isub, 1) := by decide +kernel
theorem dX4_append_18 : decode cX4_append 18 = .ok (.invokestatic 19, 3) := by decide +kernel
theorem dX4_append_21 : decode cX4_append 21 = .ok (.ifCond .eq 52, 3) := by decide +kernel
theorem dX4_append_24 : decode cX4_append 24 = .ok (.aload_n 0, 1) := by decide +kernel
theorem dX4_append_25 : decode cX4_append 25 = .ok (.getfield 15, 3) := by decide +kernel
theorem dX4_append_28 : decode cX4_append 28 = .ok (.iload 5, 2) := by decide +kernel
theorem dX4_append_30 : decode cX4_append 30 = .ok (.iload_n 1, 1) := by decide +kernel
theorem dX4_append_31 : decode cX4_append 31 = .ok (.iastore, 1) := by decide +kernel
theorem dX4_append_32 : decode cX4_append 32 = .ok (.aload_n 0, 1) := by decide +kernel
theorem dX4_append_33 : decode cX4_append 33 = .ok (.getfield 15, 3) := by decide +kernel
theorem dX4_append_36 : decode cX4_append 36 = .ok (.iload 5, 2) := by decide +kernel
theorem dX4_append_38 : decode cX4_append 38 = .ok (.iconst 1, 1) := by decide +kernel
theorem dX4_append_39 : decode cX4_append 39 = .ok (.iadd, 1) := by decide +kernel
theorem dX4_append_40 : decode cX4_append 40 = .ok (.iload_n 2, 1) := by decide +kernel
theorem dX4_append_41 : decode cX4_append 41 = .ok (.iastore, 1) := by decide +kernel
theorem dX4_append_42 : decode cX4_append 42 = .ok (.aload_n 0, 1) := by decide +kernel
theorem dX4_append_43 : decode cX4_append 43 = .ok (.getfield 15, 3) := by decide +kernel
theorem dX4_append_46 : decode cX4_append 46 = .ok (.iload 5, 2) := by decide +kernel
theorem dX4_append_48 : decode cX4_append 48 = .ok (.iconst 2, 1) := by decide +kernel
theorem dX4_append_49 : decode cX4_append 49 = .ok (.iadd, 1) := by decide +kernel
theorem dX4_append_50 : decode cX4_append 50 = .ok (.iload_n 3, 1) := by decide +kernel
theorem dX4_append_51 : decode cX4_append 51 = .ok (.iastore, 1) := by decide +kernel
theorem dX4_append_52 : decode cX4_append 52 = .ok (.aload_n 0, 1) := by decide +kernel
theorem dX4_append_53 : decode cX4_append 53 = .ok (.getfield 15, 3) := by decide +kernel
theorem dX4_append_56 : decode cX4_append 56 = .ok (.iload 5, 2) := by decide +kernel
theorem dX4_append_58 : decode cX4_append 58 = .ok (.iconst 3, 1) := by decide +kernel
theorem dX4_append_59 : decode cX4_append 59 = .ok (.iadd, 1) := by decide +kernel
theorem dX4_append_60 : decode cX4_append 60 = .ok (.iload 4, 2) := by decide +kernel
theorem dX4_append_62 : decode cX4_append 62 = .ok (.iastore, 1) := by decide +kernel
theorem dX4_append_63 : decode cX4_append 63 = .ok (.aload_n 0, 1) := by decide +kernel
theorem dX4_append_64 : decode cX4_append 64 = .ok (.dup, 1) := by decide +kernel
theorem dX4_append_65 : decode cX4_append 65 = .ok (.getfield 9, 3) := by decide +kernel
theorem dX4_append_68 : decode cX4_append 68 = .ok (.iconst 1, 1) := by decide +kernel
theorem dX4_append_69 : decode cX4_append 69 = .ok (.iadd, 1) := by decide +kernel
theorem dX4_append_70 : decode cX4_append 70 = .ok (.putfield 9, 3) := by decide +kernel
theorem dX4_append_73 : decode cX4_append 73 = .ok (.return_, 1) := by decide +kernel
theorem dX4_drop_0 : decode cX4_drop 0 = .ok (.aload_n 0, 1) := by decide +kernel
theorem dX4_drop_1 : decode cX4_drop 1 = .ok (.getfield 9, 3) := by decide +kernel
theorem dX4_drop_4 : decode cX4_drop 4 = .ok (.istore_n 1, 1) := by decide +kernel
theorem dX4_drop_5 : decode cX4_drop 5 = .ok (.aload_n 0, 1) := by decide +kernel
theorem dX4_drop_6 : decode cX4_drop 6 = .ok (.iconst 0, 1) := by decide +kernel
theorem dX4_drop_7 : decode cX4_drop 7 = .ok (.putfield 9, 3) := by decide +kernel
theorem dX4_drop_10 : decode cX4_drop 10 = .ok (.iload_n 1, 1) := by decide +kernel
theorem dX4_drop_11 : decode cX4_drop 11 = .ok (.ireturn, 1) := by decide +kernel
theorem dX4_copyFrom_0 : decode cX4_copyFrom 0 = .ok (.aload_n 0, 1) := by decide +kernel
theorem dX4_copyFrom_1 : decode cX4_copyFrom 1 = .ok (.aload_n 1, 1) := by decide +kernel
theorem dX4_copyFrom_2 : decode cX4_copyFrom 2 = .ok (.getfield 9, 3) := by decide +kernel
theorem dX4_copyFrom_5 : decode cX4_copyFrom 5 = .ok (.putfield 9, 3) := by decide +kernel
theorem dX4_copyFrom_8 : decode cX4_copyFrom 8 = .ok (.iconst 0, 1) := by decide +kernel
theorem dX4_copyFrom_9 : decode cX4_copyFrom 9 = .ok (.istore_n 2, 1) := by decide +kernel
theorem dX4_copyFrom_10 : decode cX4_copyFrom 10 = .ok (.iload_n 2, 1) := by decide +kernel
theorem dX4_copyFrom_11 : decode cX4_copyFrom 11 = .ok (.aload_n 0, 1) := by decide +kernel
theorem dX4_copyFrom_12 : decode cX4_copyFrom 12 = .ok (.getfield 15, 3) := by decide +kernel
theorem dX4_copyFrom_15 : decode cX4_copyFrom 15 = .ok (.arraylength, 1) := by decide +kernel
theorem dX4_copyFrom_16 : decode cX4_copyFrom 16 = .ok (.if_icmp .ge 21, 3) := by decide +kernel
theorem dX4_copyFrom_19 : decode cX4_copyFrom 19 = .ok (.aload_n 0, 1) := by decide +kernel
theorem dX4_copyFrom_20 : decode cX4_copyFrom 20 = .ok (.getfield 15, 3) := by decide +kernel
theorem dX4_copyFrom_23 : decode cX4_copyFrom 23 = .ok (.iload_n 2, 1) := by decide +kernel
theorem dX4_copyFrom_24 : decode cX4_copyFrom 24 = .ok (.aload_n 1, 1) := by decide +kernel
theorem dX4_copyFrom_25 : decode cX4_copyFrom 25 = .ok (.getfield 15, 3) := by decide +kernel
theorem dX4_copyFrom_28 : decode cX4_copyFrom 28 = .ok (.iload_n 2, 1) := by decide +kernel
theorem dX4_copyFrom_29 : decode cX4_copyFrom 29 = .ok (.iaload, 1) := by decide +kernel
theorem dX4_copyFrom_30 : decode cX4_copyFrom 30 = .ok (.iastore, 1) := by decide +kernel
theorem dX4_copyFrom_31 : decode cX4_copyFrom 31 = .ok (.iinc 2 1, 3) := by decide +kernel
theorem dX4_copyFrom_34 : decode cX4_copyFrom 34 = .ok (.goto (-24), 3) := by decide +kernel
theorem dX4_copyFrom_37 : decode cX4_copyFrom 37 = .ok (.return_, 1) := by decide +kernel
theorem dX4_digestOn_0 : decode cX4_digestOn 0 = .ok (.lload_n 1, 1) := by decide +kernel
theorem dX4_digestOn_1 : decode cX4_digestOn 1 = .ok (.lstore 4, 2) := by decide +kernel
theorem dX4_digestOn_3 : decode cX4_digestOn 3 = .ok (.iconst 0, 1) := by decide +kernel
theorem dX4_digestOn_4 : decode cX4_digestOn 4 = .ok (.istore 6, 2) := by decide +kernel
theorem dX4_digestOn_6 : decode cX4_digestOn 6 = .ok (.iload 6, 2) := by decide +kernel
theorem dX4_digestOn_8 : decode cX4_digestOn 8 = .ok (.aload_n 0, 1) := by decide +kernel
theorem dX4_digestOn_9 : decode cX4_digestOn 9 = .ok (.getfield 9, 3) := by decide +kernel
theorem dX4_digestOn_12 : decode cX4_digestOn 12 = .ok (.if_icmp .ge 42, 3) := by decide +kernel
theorem dX4_digestOn_15 : decode cX4_digestOn 15 = .ok (.iconst 0, 1) := by decide +kernel
theorem dX4_digestOn_16 : decode cX4_digestOn 16 = .ok (.istore 7, 2) := by decide +kernel
theorem dX4_digestOn_18 : decode cX4_digestOn 18 = .ok (.iload 7, 2) := by decide +kernel
theorem dX4_digestOn_20 : decode cX4_digestOn 20 = .ok (.iload_n 3, 1) := by decide +kernel
theorem dX4_digestOn_21 : decode cX4_digestOn 21 = .ok (.if_icmp .ge 27, 3) := by decide +kernel
theorem dX4_digestOn_24 : decode cX4_digestOn 24 = .ok (.ldc2_w 23, 3) := by decide +kernel
theorem dX4_digestOn_27 : decode cX4_digestOn 27 = .ok (.lload 4, 2) := by decide +kernel
theorem dX4_digestOn_29 : decode cX4_digestOn 29 = .ok (.lmul, 1) := by decide +kernel
theorem dX4_digestOn_30 : decode cX4_digestOn 30 = .ok (.aload_n 0, 1) := by decide +kernel
theorem dX4_digestOn_31 : decode cX4_digestOn 31 = .ok (.iload 6, 2) := by decide +kernel
theorem dX4_digestOn_33 : decode cX4_digestOn 33 = .ok (.iload 7, 2) := by decide +kernel
theorem dX4_digestOn_35 : decode cX4_digestOn 35 = .ok (.invokevirtual 25, 3) := by decide +kernel
theorem dX4_digestOn_38 : decode cX4_digestOn 38 = .ok (.i2l, 1) := by decide +kernel
theorem dX4_digestOn_39 : decode cX4_digestOn 39 = .ok (.ladd, 1) := by decide +kernel
theorem dX4_digestOn_40 : decode cX4_digestOn 40 = .ok (.lstore 4, 2) := by decide +kernel
theorem dX4_digestOn_42 : decode cX4_digestOn 42 = .ok (.iinc 7 1, 3) := by decide +kernel
theorem dX4_digestOn_45 : decode cX4_digestOn 45 = .ok (.goto (-27), 3) := by decide +kernel
theorem dX4_digestOn_48 : decode cX4_digestOn 48 = .ok (.iinc 6 1, 3) := by decide +kernel
theorem dX4_digestOn_51 : decode cX4_digestOn 51 = .ok (.goto (-45), 3) := by decide +kernel
theorem dX4_digestOn_54 : decode cX4_digestOn 54 = .ok (.lload 4, 2) := by decide +kernel
theorem dX4_digestOn_56 : decode cX4_digestOn 56 = .ok (.lreturn, 1) := by decide +kernel
theorem dX5_init_0 : decode cX5_init 0 = .ok (.aload_n 0, 1) := by decide +kernel
theorem dX5_init_1 : decode cX5_init 1 = .ok (.invokespecial 3, 3) := by decide +kernel
theorem dX5_init_4 : decode cX5_init 4 = .ok (.aload_n 0, 1) := by decide +kernel
theorem dX5_init_5 : decode cX5_init 5 = .ok (.bipush 8, 2) := by decide +kernel
theorem dX5_init_7 : decode cX5_init 7 = .ok (.newarray .int, 2) := by decide +kernel
theorem dX5_init_9 : decode cX5_init 9 = .ok (.putfield 9, 3) := by decide +kernel
theorem dX5_init_12 : decode cX5_init 12 = .ok (.aload_n 0, 1) := by decide +kernel
theorem dX5_init_13 : decode cX5_init 13 = .ok (.bipush 6, 2) := by decide +kernel
theorem dX5_init_15 : decode cX5_init 15 = .ok (.newarray .int, 2) := by decide +kernel
theorem dX5_init_17 : decode cX5_init 17 = .ok (.putfield 15, 3) := by decide +kernel
theorem dX5_init_20 : decode cX5_init 20 = .ok (.aload_n 0, 1) := by decide +kernel
theorem dX5_init_21 : decode cX5_init 21 = .ok (.bipush 6, 2) := by decide +kernel
theorem dX5_init_23 : decode cX5_init 23 = .ok (.newarray .int, 2) := by decide +kernel
theorem dX5_init_25 : decode cX5_init 25 = .ok (.putfield 18, 3) := by decide +kernel
theorem dX5_init_28 : decode cX5_init 28 = .ok (.aload_n 0, 1) := by decide +kernel
theorem dX5_init_29 : decode cX5_init 29 = .ok (.invokevirtual 21, 3) := by decide +kernel
theorem dX5_init_32 : decode cX5_init 32 = .ok (.return_, 1) := by decide +kernel
theorem dX5_reset_0 : decode cX5_reset 0 = .ok (.iconst 0, 1) := by decide +kernel
theorem dX5_reset_1 : decode cX5_reset 1 = .ok (.istore_n 1, 1) := by decide +kernel
theorem dX5_reset_2 : decode cX5_reset 2 = .ok (.iload_n 1, 1) := by decide +kernel
theorem dX5_reset_3 : decode cX5_reset 3 = .ok (.bipush 8, 2) := by decide +kernel
theorem dX5_reset_5 : decode cX5_reset 5 = .ok (.if_icmp .ge 16, 3) := by decide +kernel
theorem dX5_reset_8 : decode cX5_reset 8 = .ok (.aload_n 0, 1) := by decide +kernel
theorem dX5_reset_9 : decode cX5_reset 9 = .ok (.getfield 9, 3) := by decide +kernel
theorem dX5_reset_12 : decode cX5_reset 12 = .ok (.iload_n 1, 1) := by decide +kernel
theorem dX5_reset_13 : decode cX5_reset 13 = .ok (.iconst 0, 1) := by decide +kernel
theorem dX5_reset_14 : decode cX5_reset 14 = .ok (.iastore, 1) := by decide +kernel
theorem dX5_reset_15 : decode cX5_reset 15 = .ok (.iinc 1 1, 3) := by decide +kernel
theorem dX5_reset_18 : decode cX5_reset 18 = .ok (.goto (-16), 3) := by decide +kernel
theorem dX5_reset_21 : decode cX5_reset 21 = .ok (.iconst 0, 1) := by decide +kernel
theorem dX5_reset_22 : decode cX5_reset 22 = .ok (.istore_n 1, 1) := by decide +kernel
theorem dX5_reset_23 : decode cX5_reset 23 = .ok (.iload_n 1, 1) := by decide +kernel
theorem dX5_reset_24 : decode cX5_reset 24 = .ok (.bipush 6, 2) := by decide +kernel
theorem dX5_reset_26 : decode cX5_reset 26 = .ok (.if_icmp .ge 23, 3) := by decide +kernel
theorem dX5_reset_29 : decode cX5_reset 29 = .ok (.aload_n 0, 1) := by decide +kernel
theorem dX5_reset_30 : decode cX5_reset 30 = .ok (.getfield 15, 3) := by decide +kernel
theorem dX5_reset_33 : decode cX5_reset 33 = .ok (.iload_n 1, 1) := by decide +kernel
theorem dX5_reset_34 : decode cX5_reset 34 = .ok (.iconst 0, 1) := by decide +kernel
theorem dX5_reset_35 : decode cX5_reset 35 = .ok (.iastore, 1) := by decide +kernel
theorem dX5_reset_36 : decode cX5_reset 36 = .ok (.aload_n 0, 1) := by decide +kernel
theorem dX5_reset_37 : decode cX5_reset 37 = .ok (.getfield 18, 3) := by decide +kernel
theorem dX5_reset_40 : decode cX5_reset 40 = .ok (.iload_n 1, 1) := by decide +kernel
theorem dX5_reset_41 : decode cX5_reset 41 = .ok (.iconst (-1), 1) := by decide +kernel
theorem dX5_reset_42 : decode cX5_reset 42 = .ok (.iastore, 1) := by decide +kernel
theorem dX5_reset_43 : decode cX5_reset 43 = .ok (.iinc 1 1, 3) := by decide +kernel
theorem dX5_reset_46 : decode cX5_reset 46 = .ok (.goto (-23), 3) := by decide +kernel
theorem dX5_reset_49 : decode cX5_reset 49 = .ok (.aload_n 0, 1) := by decide +kernel
theorem dX5_reset_50 : decode cX5_reset 50 = .ok (.iconst 0, 1) := by decide +kernel
theorem dX5_reset_51 : decode cX5_reset 51 = .ok (.putfield 26, 3) := by decide +kernel
theorem dX5_reset_54 : decode cX5_reset 54 = .ok (.aload_n 0, 1) := by decide +kernel
theorem dX5_reset_55 : decode cX5_reset 55 = .ok (.iconst 0, 1) := by decide +kernel
theorem dX5_reset_56 : decode cX5_reset 56 = .ok (.putfield 30, 3) := by decide +kernel
theorem dX5_reset_59 : decode cX5_reset 59 = .ok (.return_, 1) := by decide +kernel
theorem dX5_copyFrom_0 : decode cX5_copyFrom 0 = .ok (.iconst 0, 1) := by decide +kernel
theorem dX5_copyFrom_1 : decode cX5_copyFrom 1 = .ok (.istore_n 2, 1) := by decide +kernel
theorem dX5_copyFrom_2 : decode cX5_copyFrom 2 = .ok (.iload_n 2, 1) := by decide +kernel
theorem dX5_copyFrom_3 : decode cX5_copyFrom 3 = .ok (.bipush 8, 2) := by decide +kernel
theorem dX5_copyFrom_5 : decode cX5_copyFrom 5 = .ok (.if_icmp .ge 21, 3) := by decide +kernel
theorem dX5_copyFrom_8 : decode cX5_copyFrom 8 = .ok (.aload_n 0, 1) := by decide +kernel
theorem dX5_copyFrom_9 : decode cX5_copyFrom 9 = .ok (.getfield 9, 3) := by decide +kernel
theorem dX5_copyFrom_12 : decode cX5_copyFrom 12 = .ok (.iload_n 2, 1) := by decide +kernel
theorem dX5_copyFrom_13 : decode cX5_copyFrom 13 = .ok (.aload_n 1, 1) := by decide +kernel
theorem dX5_copyFrom_14 : decode cX5_copyFrom 14 = .ok (.getfield 9, 3) := by decide +kernel
theorem dX5_copyFrom_17 : decode cX5_copyFrom 17 = .ok (.iload_n 2, 1) := by decide +kernel
theorem dX5_copyFrom_18 : decode cX5_copyFrom 18 = .ok (.iaload, 1) := by decide +kernel
theorem dX5_copyFrom_19 : decode cX5_copyFrom 19 = .ok (.iastore, 1) := by decide +kernel
theorem dX5_copyFrom_20 : decode cX5_copyFrom 20 = .ok (.iinc 2 1, 3) := by decide +kernel
theorem dX5_copyFrom_23 : decode cX5_copyFrom 23 = .ok (.goto (-21), 3) := by decide +kernel
theorem dX5_copyFrom_26 : decode cX5_copyFrom 26 = .ok (.iconst 0, 1) := by decide +kernel
theorem dX5_copyFrom_27 : decode cX5_copyFrom 27 = .ok (.istore_n 2, 1) := by decide +kernel
theorem dX5_copyFrom_28 : decode cX5_copyFrom 28 = .ok (.iload_n 2, 1) := by decide +kernel
theorem dX5_copyFrom_29 : decode cX5_copyFrom 29 = .ok (.bipush 6, 2) := by decide +kernel
theorem dX5_copyFrom_31 : decode cX5_copyFrom 31 = .ok (.if_icmp .ge 33, 3) := by decide +kernel
theorem dX5_copyFrom_34 : decode cX5_copyFrom 34 = .ok (.aload_n 0, 1) := by decide +kernel
theorem dX5_copyFrom_35 : decode cX5_copyFrom 35 = .ok (.getfield 15, 3) := by decide +kernel
theorem dX5_copyFrom_38 : decode cX5_copyFrom 38 = .ok (.iload_n 2, 1) := by decide +kernel
theorem dX5_copyFrom_39 : decode cX5_copyFrom 39 = .ok (.aload_n 1, 1) := by decide +kernel
theorem dX5_copyFrom_40 : decode cX5_copyFrom 40 = .ok (.getfield 15, 3) := by decide +kernel
theorem dX5_copyFrom_43 : decode cX5_copyFrom 43 = .ok (.iload_n 2, 1) := by decide +kernel
theorem dX5_copyFrom_44 : decode cX5_copyFrom 44 = .ok (.iaload, 1) := by decide +kernel
theorem dX5_copyFrom_45 : decode cX5_copyFrom 45 = .ok (.iastore, 1) := by decide +kernel
theorem dX5_copyFrom_46 : decode cX5_copyFrom 46 = .ok (.aload_n 0, 1) := by decide +kernel
theorem dX5_copyFrom_47 : decode cX5_copyFrom 47 = .ok (.getfield 18, 3) := by decide +kernel
theorem dX5_copyFrom_50 : decode cX5_copyFrom 50 = .ok (.iload_n 2, 1) := by decide +kernel
theorem dX5_copyFrom_51 : decode cX5_copyFrom 51 = .ok (.aload_n 1, 1) := by decide +kernel
theorem dX5_copyFrom_52 : decode cX5_copyFrom 52 = .ok (.getfield 18, 3) := by decide +kernel
theorem dX5_copyFrom_55 : decode cX5_copyFrom 55 = .ok (.iload_n 2, 1) := by decide +kernel
theorem dX5_copyFrom_56 : decode cX5_copyFrom 56 = .ok (.iaload, 1) := by decide +kernel
theorem dX5_copyFrom_57 : decode cX5_copyFrom 57 = .ok (.iastore, 1) := by decide +kernel
theorem dX5_copyFrom_58 : decode cX5_copyFrom 58 = .ok (.iinc 2 1, 3) := by decide +kernel
theorem dX5_copyFrom_61 : decode cX5_copyFrom 61 = .ok (.goto (-33), 3) := by decide +kernel
theorem dX5_copyFrom_64 : decode cX5_copyFrom 64 = .ok (.aload_n 0, 1) := by decide +kernel
theorem dX5_copyFrom_65 : decode cX5_copyFrom 65 = .ok (.aload_n 1, 1) := by decide +kernel
theorem dX5_copyFrom_66 : decode cX5_copyFrom 66 = .ok (.getfield 26, 3) := by decide +kernel
theorem dX5_copyFrom_69 : decode cX5_copyFrom 69 = .ok (.putfield 26, 3) := by decide +kernel
theorem dX5_copyFrom_72 : decode cX5_copyFrom 72 = .ok (.aload_n 0, 1) := by decide +kernel
theorem dX5_copyFrom_73 : decode cX5_copyFrom 73 = .ok (.aload_n 1, 1) := by decide +kernel
theorem dX5_copyFrom_74 : decode cX5_copyFrom 74 = .ok (.getfield 30, 3) := by decide +kernel
theorem dX5_copyFrom_77 : decode cX5_copyFrom 77 = .ok (.putfield 30, 3) := by decide +kernel
theorem dX5_copyFrom_80 : decode cX5_copyFrom 80 = .ok (.return_, 1) := by decide +kernel
theorem dX5_isKnown_0 : decode cX5_isKnown 0 = .ok (.aload_n 0, 1) := by decide +kernel
theorem dX5_isKnown_1 : decode cX5_isKnown 1 = .ok (.getfield 15, 3) := by decide +kernel
theorem dX5_isKnown_4 : decode cX5_isKnown 4 = .ok (.iload_n 1, 1) := by decide +kernel
theorem dX5_isKnown_5 : decode cX5_isKnown 5 = .ok (.iaload, 1) := by decide +kernel
theorem dX5_isKnown_6 : decode cX5_isKnown 6 = .ok (.iload_n 2, 1) := by decide +kernel
theorem dX5_isKnown_7 : decode cX5_isKnown 7 = .ok (.ishr, 1) := by decide +kernel
theorem dX5_isKnown_8 : decode cX5_isKnown 8 = .ok (.iconst 1, 1) := by decide +kernel
theorem dX5_isKnown_9 : decode cX5_isKnown 9 = .ok (.iand, 1) := by decide +kernel
theorem dX5_isKnown_10 : decode cX5_isKnown 10 = .ok (.iconst 1, 1) := by decide +kernel
theorem dX5_isKnown_11 : decode cX5_isKnown 11 = .ok (.if_icmp .ne 7, 3) := by decide +kernel
theorem dX5_isKnown_14 : decode cX5_isKnown 14 = .ok (.iconst 1, 1) := by decide +kernel
theorem dX5_isKnown_15 : decode cX5_isKnown 15 = .ok (.goto 4, 3) := by decide +kernel
theorem dX5_isKnown_18 : decode cX5_isKnown 18 = .ok (.iconst 0, 1) := by decide +kernel
theorem dX5_isKnown_19 : decode cX5_isKnown 19 = .ok (.ireturn, 1) := by decide +kernel
theorem dX5_knowers_0 : decode cX5_knowers 0 = .ok (.iconst 0, 1) := by decide +kernel
theorem dX5_knowers_1 : decode cX5_knowers 1 = .ok (.istore_n 2, 1) := by decide +kernel
theorem dX5_knowers_2 : decode cX5_knowers 2 = .ok (.iconst 0, 1) := by decide +kernel
theorem dX5_knowers_3 : decode cX5_knowers 3 = .ok (.istore_n 3, 1) := by decide +kernel
theorem dX5_knowers_4 : decode cX5_knowers 4 = .ok (.iload_n 3, 1) := by decide +kernel
theorem dX5_knowers_5 : decode cX5_knowers 5 = .ok (.bipush 6, 2) := by decide +kernel
theorem dX5_knowers_7 : decode cX5_knowers 7 = .ok (.if_icmp .ge 24, 3) := by decide +kernel
theorem dX5_knowers_10 : decode cX5_knowers 10 = .ok (.aload_n 0, 1) := by decide +kernel
theorem dX5_knowers_11 : decode cX5_knowers 11 = .ok (.iload_n 3, 1) := by decide +kernel
theorem dX5_knowers_12 : decode cX5_knowers 12 = .ok (.iload_n 1, 1) := by decide +kernel
theorem dX5_knowers_13 : decode cX5_knowers 13 = .ok (.invokevirtual 33, 3) := by decide +kernel
theorem dX5_knowers_16 : decode cX5_knowers 16 = .ok (.ifCond .eq 9, 3) := by decide +kernel
theorem dX5_knowers_19 : decode cX5_knowers 19 = .ok (.iload_n 2, 1) := by decide +kernel
theorem dX5_knowers_20 : decode cX5_knowers 20 = .ok (.iconst 1, 1) := by decide +kernel
theorem dX5_knowers_21 : decode cX5_knowers 21 = .ok (.iload_n 3, 1) := by decide +kernel
theorem dX5_knowers_22 : decode cX5_knowers 22 = .ok (.ishl, 1) := by decide +kernel
theorem dX5_knowers_23 : decode cX5_knowers 23 = .ok (.ior, 1) := by decide +kernel
theorem dX5_knowers_24 : decode cX5_knowers 24 = .ok (.istore_n 2, 1) := by decide +kernel
theorem dX5_knowers_25 : decode cX5_knowers 25 = .ok (.iinc 3 1, 3) := by decide +kernel
theorem dX5_knowers_28 : decode cX5_knowers 28 = .ok (.goto (-24), 3) := by decide +kernel
theorem dX5_knowers_31 : decode cX5_knowers 31 = .ok (.iload_n 2, 1) := by decide +kernel
theorem dX5_knowers_32 : decode cX5_knowers 32 = .ok (.ireturn, 1) := by decide +kernel
theorem dX5_knownTogether_0 : decode cX5_knownTogether 0 = .ok (.iconst 0, 1) := by decide +kernel
theorem dX5_knownTogether_1 : decode cX5_knownTogether 1 = .ok (.istore_n 1, 1) := by decide +kernel
theorem dX5_knownTogether_2 : decode cX5_knownTogether 2 = .ok (.iconst 0, 1) := by decide +kernel
theorem dX5_knownTogether_3 : decode cX5_knownTogether 3 = .ok (.istore_n 2, 1) := by decide +kernel
theorem dX5_knownTogether_4 : decode cX5_knownTogether 4 = .ok (.iload_n 2, 1) := by decide +kernel
theorem dX5_knownTogether_5 : decode cX5_knownTogether 5 = .ok (.bipush 6, 2) := by decide +kernel
theorem dX5_knownTogether_7 : decode cX5_knownTogether 7 = .ok (.if_icmp .ge 21, 3) := by decide +kernel
theorem dX5_knownTogether_10 : decode cX5_knownTogether 10 = .ok (.iload_n 1, 1) := by decide +kernel
theorem dX5_knownTogether_11 : decode cX5_knownTogether 11 = .ok (.aload_n 0, 1) := by decide +kernel
theorem dX5_knownTogether_12 : decode cX5_knownTogether 12 = .ok (.getfield 15, 3) := by decide +kernel
theorem dX5_knownTogether_15 : decode cX5_knownTogether 15 = .ok (.iload_n 2, 1) := by decide +kernel
theorem dX5_knownTogether_16 : decode cX5_knownTogether 16 = .ok (.iaload, 1) := by decide +kernel
theorem dX5_knownTogether_17 : decode cX5_knownTogether 17 = .ok (.invokestatic 37, 3) := by decide +kernel
theorem dX5_knownTogether_20 : decode cX5_knownTogether 20 = .ok (.iadd, 1) := by decide +kernel
theorem dX5_knownTogether_21 : decode cX5_knownTogether 21 = .ok (.istore_n 1, 1) := by decide +kernel
theorem dX5_knownTogether_22 : decode cX5_knownTogether 22 = .ok (.iinc 2 1, 3) := by decide +kernel
theorem dX5_knownTogether_25 : decode cX5_knownTogether 25 = .ok (.goto (-21), 3) := by decide +kernel
theorem dX5_knownTogether_28 : decode cX5_knownTogether 28 = .ok (.iload_n 1, 1) := by decide +kernel
theorem dX5_knownTogether_29 : decode cX5_knownTogether 29 = .ok (.ireturn, 1) := by decide +kernel
theorem dX5_atTop_0 : decode cX5_atTop 0 = .ok (.iconst 0, 1) := by decide +kernel
theorem dX5_atTop_1 : decode cX5_atTop 1 = .ok (.istore_n 1, 1) := by decide +kernel
theorem dX5_atTop_2 : decode cX5_atTop 2 = .ok (.iconst 0, 1) := by decide +kernel
theorem dX5_atTop_3 : decode cX5_atTop 3 = .ok (.istore_n 2, 1) := by decide +kernel
theorem dX5_atTop_4 : decode cX5_atTop 4 = .ok (.iload_n 2, 1) := by decide +kernel
theorem dX5_atTop_5 : decode cX5_atTop 5 = .ok (.bipush 6, 2) := by decide +kernel
theorem dX5_atTop_7 : decode cX5_atTop 7 = .ok (.if_icmp .ge 23, 3) := by decide +kernel
theorem dX5_atTop_10 : decode cX5_atTop 10 = .ok (.aload_n 0, 1) := by decide +kernel
theorem dX5_atTop_11 : decode cX5_atTop 11 = .ok (.getfield 18, 3) := by decide +kernel
theorem dX5_atTop_14 : decode cX5_atTop 14 = .ok (.iload_n 2, 1) := by decide +kernel
theorem dX5_atTop_15 : decode cX5_atTop 15 = .ok (.iaload, 1) := by decide +kernel
theorem dX5_atTop_16 : decode cX5_atTop 16 = .ok (.bipush 8, 2) := by decide +kernel
theorem dX5_atTop_18 : decode cX5_atTop 18 = .ok (.if_icmp .ne 6, 3) := by decide +kernel
theorem dX5_atTop_21 : decode cX5_atTop 21 = .ok (.iinc 1 1, 3) := by decide +kernel
theorem dX5_atTop_24 : decode cX5_atTop 24 = .ok (.iinc 2 1, 3) := by decide +kernel
theorem dX5_atTop_27 : decode cX5_atTop 27 = .ok (.goto (-23), 3) := by decide +kernel
theorem dX5_atTop_30 : decode cX5_atTop 30 = .ok (.iload_n 1, 1) := by decide +kernel
theorem dX5_atTop_31 : decode cX5_atTop 31 = .ok (.ireturn, 1) := by decide +kernel
theorem dX5_toldOn_0 : decode cX5_toldOn 0 = .ok (.iconst 0, 1) := by decide +kernel
theorem dX5_toldOn_1 : decode cX5_toldOn 1 = .ok (.istore_n 2, 1) := by decide +kernel
theorem dX5_toldOn_2 : decode cX5_toldOn 2 = .ok (.iconst 0, 1) := by decide +kernel
theorem dX5_toldOn_3 : decode cX5_toldOn 3 = .ok (.istore_n 3, 1) := by decide +kernel
theorem dX5_toldOn_4 : decode cX5_toldOn 4 = .ok (.iload_n 3, 1) := by decide +kernel
theorem dX5_toldOn_5 : decode cX5_toldOn 5 = .ok (.bipush 7, 2) := by decide +kernel
theorem dX5_toldOn_7 : decode cX5_toldOn 7 = .ok (.if_icmp .ge 63, 3) := by decide +kernel
theorem dX5_toldOn_10 : decode cX5_toldOn 10 = .ok (.iload_n 1, 1) := by decide +kernel
theorem dX5_toldOn_11 : decode cX5_toldOn 11 = .ok (.aload_n 0, 1) := by decide +kernel
theorem dX5_toldOn_12 : decode cX5_toldOn 12 = .ok (.getfield 26, 3) := by decide +kernel
theorem dX5_toldOn_15 : decode cX5_toldOn 15 = .ok (.iand, 1) := by decide +kernel
theorem dX5_toldOn_16 : decode cX5_toldOn 16 = .ok (.iconst 1, 1) := by decide +kernel
theorem dX5_toldOn_17 : decode cX5_toldOn 17 = .ok (.iload_n 3, 1) := by decide +kernel
theorem dX5_toldOn_18 : decode cX5_toldOn 18 = .ok (.ishl, 1) := by decide +kernel
theorem dX5_toldOn_19 : decode cX5_toldOn 19 = .ok (.iand, 1) := by decide +kernel
theorem dX5_toldOn_20 : decode cX5_toldOn 20 = .ok (.ifCond .eq 7, 3) := by decide +kernel
theorem dX5_toldOn_23 : decode cX5_toldOn 23 = .ok (.iconst 1, 1) := by decide +kernel
theorem dX5_toldOn_24 : decode cX5_toldOn 24 = .ok (.goto 4, 3) := by decide +kernel
theorem dX5_toldOn_27 : decode cX5_toldOn 27 = .ok (.iconst 0, 1) := by decide +kernel
theorem dX5_toldOn_28 : decode cX5_toldOn 28 = .ok (.istore 4, 2) := by decide +kernel
theorem dX5_toldOn_30 : decode cX5_toldOn 30 = .ok (.aload_n 0, 1) := by decide +kernel
theorem dX5_toldOn_31 : decode cX5_toldOn 31 = .ok (.getfield 9, 3) := by decide +kernel
theorem dX5_toldOn_34 : decode cX5_toldOn 34 = .ok (.iload_n 3, 1) := by decide +kernel
theorem dX5_toldOn_35 : decode cX5_toldOn 35 = .ok (.iconst 1, 1) := by decide +kernel
theorem dX5_toldOn_36 : decode cX5_toldOn 36 = .ok (.iadd, 1) := by decide +kernel
theorem dX5_toldOn_37 : decode cX5_toldOn 37 = .ok (.iaload, 1) := by decide +kernel
theorem dX5_toldOn_38 : decode cX5_toldOn 38 = .ok (.istore 5, 2) := by decide +kernel
theorem dX5_toldOn_40 : decode cX5_toldOn 40 = .ok (.iload 4, 2) := by decide +kernel
theorem dX5_toldOn_42 : decode cX5_toldOn 42 = .ok (.ifCond .eq 22, 3) := by decide +kernel
theorem dX5_toldOn_45 : decode cX5_toldOn 45 = .ok (.iload 5, 2) := by decide +kernel
theorem dX5_toldOn_47 : decode cX5_toldOn 47 = .ok (.ifCond .eq 9, 3) := by decide +kernel
theorem dX5_toldOn_50 : decode cX5_toldOn 50 = .ok (.iload 5, 2) := by decide +kernel
theorem dX5_toldOn_52 : decode cX5_toldOn 52 = .ok (.iconst 4, 1) := by decide +kernel
theorem dX5_toldOn_53 : decode cX5_toldOn 53 = .ok (.if_icmp .ne 11, 3) := by decide +kernel
theorem dX5_toldOn_56 : decode cX5_toldOn 56 = .ok (.iload_n 2, 1) := by decide +kernel
theorem dX5_toldOn_57 : decode cX5_toldOn 57 = .ok (.iconst 1, 1) := by decide +kernel
theorem dX5_toldOn_58 : decode cX5_toldOn 58 = .ok (.iload_n 3, 1) := by decide +kernel
theorem dX5_toldOn_59 : decode cX5_toldOn 59 = .ok (.iconst 1, 1) := by decide +kernel
theorem dX5_toldOn_60 : decode cX5_toldOn 60 = .ok (.iadd, 1) := by decide +kernel
theorem dX5_toldOn_61 : decode cX5_toldOn 61 = .ok (.ishl, 1) := by decide +kernel
theorem dX5_toldOn_62 : decode cX5_toldOn 62 = .ok (.ior, 1) := by decide +kernel
theorem dX5_toldOn_63 : decode cX5_toldOn 63 = .ok (.istore_n 2, 1) := by decide +kernel
theorem dX5_toldOn_64 : decode cX5_toldOn 64 = .ok (.iinc 3 1, 3) := by decide +kernel
theorem dX5_toldOn_67 : decode cX5_toldOn 67 = .ok (.goto (-63), 3) := by decide +kernel
theorem dX5_toldOn_70 : decode cX5_toldOn 70 = .ok (.iload_n 1, 1) := by decide +kernel
theorem dX5_toldOn_71 : decode cX5_toldOn 71 = .ok (.iload_n 2, 1) := by decide +kernel
theorem dX5_toldOn_72 : decode cX5_toldOn 72 = .ok (.ior, 1) := by decide +kernel
theorem dX5_toldOn_73 : decode cX5_toldOn 73 = .ok (.ireturn, 1) := by decide +kernel
theorem dX5_passMinute_0 : decode cX5_passMinute 0 = .ok (.iconst 0, 1) := by decide +kernel
theorem dX5_passMinute_1 : decode cX5_passMinute 1 = .ok (.istore_n 1, 1) := by decide +kernel
theorem dX5_passMinute_2 : decode cX5_passMinute 2 = .ok (.iload_n 1, 1) := by decide +kernel
theorem dX5_passMinute_3 : decode cX5_passMinute 3 = .ok (.bipush 6, 2) := by decide +kernel
theorem dX5_passMinute_5 : decode cX5_passMinute 5 = .ok (.if_icmp .ge 25, 3) := by decide +kernel
theorem dX5_passMinute_8 : decode cX5_passMinute 8 = .ok (.aload_n 0, 1) := by decide +kernel
theorem dX5_passMinute_9 : decode cX5_passMinute 9 = .ok (.getfield 15, 3) := by decide +kernel
theorem dX5_passMinute_12 : decode cX5_passMinute 12 = .ok (.iload_n 1, 1) := by decide +kernel
theorem dX5_passMinute_13 : decode cX5_passMinute 13 = .ok (.aload_n 0, 1) := by decide +kernel
theorem dX5_passMinute_14 : decode cX5_passMinute 14 = .ok (.aload_n 0, 1) := by decide +kernel
theorem dX5_passMinute_15 : decode cX5_passMinute 15 = .ok (.getfield 15, 3) := by decide +kernel
theorem dX5_passMinute_18 : decode cX5_passMinute 18 = .ok (.iload_n 1, 1) := by decide +kernel
theorem dX5_passMinute_19 : decode cX5_passMinute 19 = .ok (.iaload, 1) := by decide +kernel
theorem dX5_passMinute_20 : decode cX5_passMinute 20 = .ok (.invokevirtual 43, 3) := by decide +kernel
theorem dX5_passMinute_23 : decode cX5_passMinute 23 = .ok (.iastore, 1) := by decide +kernel
theorem dX5_passMinute_24 : decode cX5_passMinute 24 = .ok (.iinc 1 1, 3) := by decide +kernel
theorem dX5_passMinute_27 : decode cX5_passMinute 27 = .ok (.goto (-25), 3) := by decide +kernel
theorem dX5_passMinute_30 : decode cX5_passMinute 30 = .ok (.aload_n 0, 1) := by decide +kernel
theorem dX5_passMinute_31 : decode cX5_passMinute 31 = .ok (.dup, 1) := by decide +kernel
theorem dX5_passMinute_32 : decode cX5_passMinute 32 = .ok (.getfield 30, 3) := by decide +kernel
theorem dX5_passMinute_35 : decode cX5_passMinute 35 = .ok (.iconst 1, 1) := by decide +kernel
theorem dX5_passMinute_36 : decode cX5_passMinute 36 = .ok (.iadd, 1) := by decide +kernel
theorem dX5_passMinute_37 : decode cX5_passMinute 37 = .ok (.putfield 30, 3) := by decide +kernel
theorem dX5_passMinute_40 : decode cX5_passMinute 40 = .ok (.return_, 1) := by decide +kernel
theorem dX5_passMinutes_0 : decode cX5_passMinutes 0 = .ok (.iconst 0, 1) := by decide +kernel
theorem dX5_passMinutes_1 : decode cX5_passMinutes 1 = .ok (.istore_n 2, 1) := by decide +kernel
theorem dX5_passMinutes_2 : decode cX5_passMinutes 2 = .ok (.iload_n 2, 1) := by decide +kernel
theorem dX5_passMinutes_3 : decode cX5_passMinutes 3 = .ok (.iload_n 1, 1) := by decide +kernel
theorem dX5_passMinutes_4 : decode cX5_passMinutes 4 = .ok (.if_icmp .ge 23, 3) := by decide +kernel
theorem dX5_passMinutes_7 : decode cX5_passMinutes 7 = .ok (.aload_n 0, 1) := by decide +kernel
theorem dX5_passMinutes_8 : decode cX5_passMinutes 8 = .ok (.getfield 30, 3) := by decide +kernel
theorem dX5_passMinutes_11 : decode cX5_passMinutes 11 = .ok (.sipush 9999, 3) := by decide +kernel
theorem dX5_passMinutes_14 : decode cX5_passMinutes 14 = .ok (.if_icmp .ge 13, 3) := by decide +kernel
theorem dX5_passMinutes_17 : decode cX5_passMinutes 17 = .ok (.aload_n 0, 1) := by decide +kernel
theorem dX5_passMinutes_18 : decode cX5_passMinutes 18 = .ok (.invokevirtual 46, 3) := by decide +kernel
theorem dX5_passMinutes_21 : decode cX5_passMinutes 21 = .ok (.iinc 2 1, 3) := by decide +kernel
theorem dX5_passMinutes_24 : decode cX5_passMinutes 24 = .ok (.goto (-22), 3) := by decide +kernel
theorem dX5_passMinutes_27 : decode cX5_passMinutes 27 = .ok (.return_, 1) := by decide +kernel
theorem dX5_learn_0 : decode cX5_learn 0 = .ok (.iload_n 1, 1) := by decide +kernel
theorem dX5_learn_1 : decode cX5_learn 1 = .ok (.iconst 0, 1) := by decide +kernel
theorem dX5_learn_2 : decode cX5_learn 2 = .ok (.iconst 5, 1) := by decide +kernel
theorem dX5_learn_3 : decode cX5_learn 3 = .ok (.invokestatic 49, 3) := by decide +kernel
theorem dX5_learn_6 : decode cX5_learn 6 = .ok (.ifCond .eq 15, 3) := by decide +kernel
theorem dX5_learn_9 : decode cX5_learn 9 = .ok (.aload_n 0, 1) := by decide +kernel
theorem dX5_learn_10 : decode cX5_learn 10 = .ok (.getfield 15, 3) := by decide +kernel
theorem dX5_learn_13 : decode cX5_learn 13 = .ok (.iload_n 1, 1) := by decide +kernel
theorem dX5_learn_14 : decode cX5_learn 14 = .ok (.dup2, 1) := by decide +kernel
theorem dX5_learn_15 : decode cX5_learn 15 = .ok (.iaload, 1) := by decide +kernel
theorem dX5_learn_16 : decode cX5_learn 16 = .ok (.iconst 1, 1) := by decide +kernel
theorem dX5_learn_17 : decode cX5_learn 17 = .ok (.iload_n 2, 1) := by decide +kernel
theorem dX5_learn_18 : decode cX5_learn 18 = .ok (.ishl, 1) := by decide +kernel
theorem dX5_learn_19 : decode cX5_learn 19 = .ok (.ior, 1) := by decide +kernel
theorem dX5_learn_20 : decode cX5_learn 20 = .ok (.iastore, 1) := by decide +kernel
theorem dX5_learn_21 : decode cX5_learn 21 = .ok (.return_, 1) := by decide +kernel
theorem dX5_stayAt_0 : decode cX5_stayAt 0 = .ok (.iload_n 1, 1) := by decide +kernel
theorem dX5_stayAt_1 : decode cX5_stayAt 1 = .ok (.iconst 0, 1) := by decide +kernel
theorem dX5_stayAt_2 : decode cX5_stayAt 2 = .ok (.iconst 5, 1) := by decide +kernel
theorem dX5_stayAt_3 : decode cX5_stayAt 3 = .ok (.invokestatic 49, 3) := by decide +kernel
theorem dX5_stayAt_6 : decode cX5_stayAt 6 = .ok (.ifCond .eq 10, 3) := by decide +kernel
theorem dX5_stayAt_9 : decode cX5_stayAt 9 = .ok (.aload_n 0, 1) := by decide +kernel
theorem dX5_stayAt_10 : decode cX5_stayAt 10 = .ok (.getfield 18, 3) := by decide +kernel
theorem dX5_stayAt_13 : decode cX5_stayAt 13 = .ok (.iload_n 1, 1) := by decide +kernel
theorem dX5_stayAt_14 : decode cX5_stayAt 14 = .ok (.iload_n 2, 1) := by decide +kernel
theorem dX5_stayAt_15 : decode cX5_stayAt 15 = .ok (.iastore, 1) := by decide +kernel
theorem dX5_stayAt_16 : decode cX5_stayAt 16 = .ok (.return_, 1) := by decide +kernel
theorem dX5_putIn_0 : decode cX5_putIn 0 = .ok (.aload_n 0, 1) := by decide +kernel
theorem dX5_putIn_1 : decode cX5_putIn 1 = .ok (.getfield 9, 3) := by decide +kernel
theorem dX5_putIn_4 : decode cX5_putIn 4 = .ok (.iload_n 1, 1) := by decide +kernel
theorem dX5_putIn_5 : decode cX5_putIn 5 = .ok (.iload_n 2, 1) := by decide +kernel
theorem dX5_putIn_6 : decode cX5_putIn 6 = .ok (.iastore, 1) := by decide +kernel
theorem dX5_putIn_7 : decode cX5_putIn 7 = .ok (.iconst 0, 1) := by decide +kernel
theorem dX5_putIn_8 : decode cX5_putIn 8 = .ok (.istore_n 3, 1) := by decide +kernel
theorem dX5_putIn_9 : decode cX5_putIn 9 = .ok (.iload_n 3, 1) := by decide +kernel
theorem dX5_putIn_10 : decode cX5_putIn 10 = .ok (.bipush 6, 2) := by decide +kernel
theorem dX5_putIn_12 : decode cX5_putIn 12 = .ok (.if_icmp .ge 23, 3) := by decide +kernel
theorem dX5_putIn_15 : decode cX5_putIn 15 = .ok (.aload_n 0, 1) := by decide +kernel
theorem dX5_putIn_16 : decode cX5_putIn 16 = .ok (.getfield 15, 3) := by decide +kernel
theorem dX5_putIn_19 : decode cX5_putIn 19 = .ok (.iload_n 3, 1) := by decide +kernel
theorem dX5_putIn_20 : decode cX5_putIn 20 = .ok (.dup2, 1) := by decide +kernel
theorem dX5_putIn_21 : decode cX5_putIn 21 = .ok (.iaload, 1) := by decide +kernel
theorem dX5_putIn_22 : decode cX5_putIn 22 = .ok (.iconst 1, 1) := by decide +kernel
theorem dX5_putIn_23 : decode cX5_putIn 23 = .ok (.iload_n 1, 1) := by decide +kernel
theorem dX5_putIn_24 : decode cX5_putIn 24 = .ok (.ishl, 1) := by decide +kernel
theorem dX5_putIn_25 : decode cX5_putIn 25 = .ok (.iconst (-1), 1) := by decide +kernel
theorem dX5_putIn_26 : decode cX5_putIn 26 = .ok (.ixor, 1) := by decide +kernel
theorem dX5_putIn_27 : decode cX5_putIn 27 = .ok (.iand, 1) := by decide +kernel
theorem dX5_putIn_28 : decode cX5_putIn 28 = .ok (.iastore, 1) := by decide +kernel
theorem dX5_putIn_29 : decode cX5_putIn 29 = .ok (.iinc 3 1, 3) := by decide +kernel
theorem dX5_putIn_32 : decode cX5_putIn 32 = .ok (.goto (-23), 3) := by decide +kernel
theorem dX5_putIn_35 : decode cX5_putIn 35 = .ok (.return_, 1) := by decide +kernel
theorem dX5_bearsAbove_0 : decode cX5_bearsAbove 0 = .ok (.iload_n 2, 1) := by decide +kernel
theorem dX5_bearsAbove_1 : decode cX5_bearsAbove 1 = .ok (.bipush 7, 2) := by decide +kernel
theorem dX5_bearsAbove_3 : decode cX5_bearsAbove 3 = .ok (.if_icmp .ge 14, 3) := by decide +kernel
theorem dX5_bearsAbove_6 : decode cX5_bearsAbove 6 = .ok (.aload_n 0, 1) := by decide +kernel
theorem dX5_bearsAbove_7 : decode cX5_bearsAbove 7 = .ok (.iload_n 1, 1) := by decide +kernel
theorem dX5_bearsAbove_8 : decode cX5_bearsAbove 8 = .ok (.iload_n 2, 1) := by decide +kernel
theorem dX5_bearsAbove_9 : decode cX5_bearsAbove 9 = .ok (.iconst 1, 1) := by decide +kernel
theorem dX5_bearsAbove_10 : decode cX5_bearsAbove 10 = .ok (.iadd, 1) := by decide +kernel
theorem dX5_bearsAbove_11 : decode cX5_bearsAbove 11 = .ok (.invokevirtual 33, 3) := by decide +kernel
theorem dX5_bearsAbove_14 : decode cX5_bearsAbove 14 = .ok (.ifCond .eq 7, 3) := by decide +kernel
theorem dX5_bearsAbove_17 : decode cX5_bearsAbove 17 = .ok (.iconst 1, 1) := by decide +kernel
theorem dX5_bearsAbove_18 : decode cX5_bearsAbove 18 = .ok (.goto 4, 3) := by decide +kernel
theorem dX5_bearsAbove_21 : decode cX5_bearsAbove 21 = .ok (.iconst 0, 1) := by decide +kernel
theorem dX5_bearsAbove_22 : decode cX5_bearsAbove 22 = .ok (.ireturn, 1) := by decide +kernel
theorem dX5_walk_0 : decode cX5_walk 0 = .ok (.aload_n 0, 1) := by decide +kernel
theorem dX5_walk_1 : decode cX5_walk 1 = .ok (.getfield 18, 3) := by decide +kernel
theorem dX5_walk_4 : decode cX5_walk 4 = .ok (.iload_n 1, 1) := by decide +kernel
theorem dX5_walk_5 : decode cX5_walk 5 = .ok (.iaload, 1) := by decide +kernel
theorem dX5_walk_6 : decode cX5_walk 6 = .ok (.istore_n 3, 1) := by decide +kernel
theorem dX5_walk_7 : decode cX5_walk 7 = .ok (.iload_n 2, 1) := by decide +kernel
theorem dX5_walk_8 : decode cX5_walk 8 = .ok (.ifCond .ne 15, 3) := by decide +kernel
theorem dX5_walk_11 : decode cX5_walk 11 = .ok (.aload_n 0, 1) := by decide +kernel
theorem dX5_walk_12 : decode cX5_walk 12 = .ok (.getfield 18, 3) := by decide +kernel
theorem dX5_walk_15 : decode cX5_walk 15 = .ok (.iload_n 1, 1) := by decide +kernel
theorem dX5_walk_16 : decode cX5_walk 16 = .ok (.iload_n 3, 1) := by decide +kernel
theorem dX5_walk_17 : decode cX5_walk 17 = .ok (.iconst 1, 1) := by decide +kernel
theorem dX5_walk_18 : decode cX5_walk 18 = .ok (.isub, 1) := by decide +kernel
theorem dX5_walk_19 : decode cX5_walk 19 = .ok (.iastore, 1) := by decide +kernel
theorem dX5_walk_20 : decode cX5_walk 20 = .ok (.goto 21, 3) := by decide +kernel
theorem dX5_walk_23 : decode cX5_walk 23 = .ok (.aload_n 0, 1) := by decide +kernel
theorem dX5_walk_24 : decode cX5_walk 24 = .ok (.iload_n 1, 1) := by decide +kernel
theorem dX5_walk_25 : decode cX5_walk 25 = .ok (.iload_n 3, 1) := by decide +kernel
theorem dX5_walk_26 : decode cX5_walk 26 = .ok (.invokevirtual 53, 3) := by decide +kernel
theorem dX5_walk_29 : decode cX5_walk 29 = .ok (.ifCond .eq 12, 3) := by decide +kernel
theorem dX5_walk_32 : decode cX5_walk 32 = .ok (.aload_n 0, 1) := by decide +kernel
theorem dX5_walk_33 : decode cX5_walk 33 = .ok (.getfield 18, 3) := by decide +kernel
theorem dX5_walk_36 : decode cX5_walk 36 = .ok (.iload_n 1, 1) := by decide +kernel
theorem dX5_walk_37 : decode cX5_walk 37 = .ok (.iload_n 3, 1) := by decide +kernel
theorem dX5_walk_38 : decode cX5_walk 38 = .ok (.iconst 1, 1) := by decide +kernel
theorem dX5_walk_39 : decode cX5_walk 39 = .ok (.iadd, 1) := by decide +kernel
theorem dX5_walk_40 : decode cX5_walk 40 = .ok (.iastore, 1) := by decide +kernel
theorem dX5_walk_41 : decode cX5_walk 41 = .ok (.return_, 1) := by decide +kernel
theorem dX5_highest_0 : decode cX5_highest 0 = .ok (.aload_n 0, 1) := by decide +kernel
theorem dX5_highest_1 : decode cX5_highest 1 = .ok (.getfield 18, 3) := by decide +kernel
theorem dX5_highest_4 : decode cX5_highest 4 = .ok (.iload_n 1, 1) := by decide +kernel
theorem dX5_highest_5 : decode cX5_highest 5 = .ok (.iaload, 1) := by decide +kernel
theorem dX5_highest_6 : decode cX5_highest 6 = .ok (.istore_n 2, 1) := by decide +kernel
theorem dX5_highest_7 : decode cX5_highest 7 = .ok (.iload_n 2, 1) := by decide +kernel
theorem dX5_highest_8 : decode cX5_highest 8 = .ok (.bipush 8, 2) := by decide +kernel
theorem dX5_highest_10 : decode cX5_highest 10 = .ok (.if_icmp .ge 20, 3) := by decide +kernel
theorem dX5_highest_13 : decode cX5_highest 13 = .ok (.aload_n 0, 1) := by decide +kernel
theorem dX5_highest_14 : decode cX5_highest 14 = .ok (.iload_n 1, 1) := by decide +kernel
theorem dX5_highest_15 : decode cX5_highest 15 = .ok (.iload_n 2, 1) := by decide +kernel
theorem dX5_highest_16 : decode cX5_highest 16 = .ok (.invokevirtual 53, 3) := by decide +kernel
theorem dX5_highest_19 : decode cX5_highest 19 = .ok (.ifCond .ne 5, 3) := by decide +kernel
theorem dX5_highest_22 : decode cX5_highest 22 = .ok (.iload_n 2, 1) := by decide +kernel
theorem dX5_highest_23 : decode cX5_highest 23 = .ok (.ireturn, 1) := by decide +kernel
theorem dX5_highest_24 : decode cX5_highest 24 = .ok (.iinc 2 1, 3) := by decide +kernel
theorem dX5_highest_27 : decode cX5_highest 27 = .ok (.goto (-20), 3) := by decide +kernel
theorem dX5_highest_30 : decode cX5_highest 30 = .ok (.bipush 8, 2) := by decide +kernel
theorem dX5_highest_32 : decode cX5_highest 32 = .ok (.ireturn, 1) := by decide +kernel
theorem dX6_init_0 : decode cX6_init 0 = .ok (.aload_n 0, 1) := by decide +kernel
theorem dX6_init_1 : decode cX6_init 1 = .ok (.invokespecial 3, 3) := by decide +kernel
theorem dX6_init_4 : decode cX6_init 4 = .ok (.return_, 1) := by decide +kernel
theorem dX6_answer_0 : decode cX6_answer 0 = .ok (.iconst 1, 1) := by decide +kernel
theorem dX6_answer_1 : decode cX6_answer 1 = .ok (.istore 4, 2) := by decide +kernel
theorem dX6_answer_3 : decode cX6_answer 3 = .ok (.iload 4, 2) := by decide +kernel
theorem dX6_answer_5 : decode cX6_answer 5 = .ok (.iconst 1, 1) := by decide +kernel
theorem dX6_answer_6 : decode cX6_answer 6 = .ok (.iadd, 1) := by decide +kernel
theorem dX6_answer_7 : decode cX6_answer 7 = .ok (.istore 5, 2) := by decide +kernel
theorem dX6_answer_9 : decode cX6_answer 9 = .ok (.iload 4, 2) := by decide +kernel
theorem dX6_answer_11 : decode cX6_answer 11 = .ok (.iload_n 2, 1) := by decide +kernel
theorem dX6_answer_12 : decode cX6_answer 12 = .ok (.iconst 4, 1) := by decide +kernel
theorem dX6_answer_13 : decode cX6_answer 13 = .ok (.idiv, 1) := by decide +kernel
theorem dX6_answer_14 : decode cX6_answer 14 = .ok (.iadd, 1) := by decide +kernel
theorem dX6_answer_15 : decode cX6_answer 15 = .ok (.istore 6, 2) := by decide +kernel
theorem dX6_answer_17 : decode cX6_answer 17 = .ok (.iload_n 1, 1) := by decide +kernel
theorem dX6_answer_18 : decode cX6_answer 18 = .ok (.tableswitch 72 0 4 #[34, 37, 40, 43, 60], 34) := by decide +kernel
theorem dX6_answer_52 : decode cX6_answer 52 = .ok (.iload 4, 2) := by decide +kernel
theorem dX6_answer_54 : decode cX6_answer 54 = .ok (.ireturn, 1) := by decide +kernel
theorem dX6_answer_55 : decode cX6_answer 55 = .ok (.iload 5, 2) := by decide +kernel
theorem dX6_answer_57 : decode cX6_answer 57 = .ok (.ireturn, 1) := by decide +kernel
theorem dX6_answer_58 : decode cX6_answer 58 = .ok (.iload 6, 2) := by decide +kernel
theorem dX6_answer_60 : decode cX6_answer 60 = .ok (.ireturn, 1) := by decide +kernel
theorem dX6_answer_61 : decode cX6_answer 61 = .ok (.iload_n 3, 1) := by decide +kernel
theorem dX6_answer_62 : decode cX6_answer 62 = .ok (.iconst 2, 1) := by decide +kernel
theorem dX6_answer_63 : decode cX6_answer 63 = .ok (.irem, 1) := by decide +kernel
theorem dX6_answer_64 : decode cX6_answer 64 = .ok (.iconst 1, 1) := by decide +kernel
theorem dX6_answer_65 : decode cX6_answer 65 = .ok (.if_icmp .ne 10, 3) := by decide +kernel
theorem dX6_answer_68 : decode cX6_answer 68 = .ok (.iload 5, 2) := by decide +kernel
theorem dX6_answer_70 : decode cX6_answer 70 = .ok (.iconst 2, 1) := by decide +kernel
theorem dX6_answer_71 : decode cX6_answer 71 = .ok (.iadd, 1) := by decide +kernel
theorem dX6_answer_72 : decode cX6_answer 72 = .ok (.goto 5, 3) := by decide +kernel
theorem dX6_answer_75 : decode cX6_answer 75 = .ok (.iload 5, 2) := by decide +kernel
theorem dX6_answer_77 : decode cX6_answer 77 = .ok (.ireturn, 1) := by decide +kernel
theorem dX6_answer_78 : decode cX6_answer 78 = .ok (.iload_n 2, 1) := by decide +kernel
theorem dX6_answer_79 : decode cX6_answer 79 = .ok (.iconst 5, 1) := by decide +kernel
theorem dX6_answer_80 : decode cX6_answer 80 = .ok (.if_icmp .gt 7, 3) := by decide +kernel
theorem dX6_answer_83 : decode cX6_answer 83 = .ok (.iconst 0, 1) := by decide +kernel
theorem dX6_answer_84 : decode cX6_answer 84 = .ok (.goto 5, 3) := by decide +kernel
theorem dX6_answer_87 : decode cX6_answer 87 = .ok (.iload 4, 2) := by decide +kernel
theorem dX6_answer_89 : decode cX6_answer 89 = .ok (.ireturn, 1) := by decide +kernel
theorem dX6_answer_90 : decode cX6_answer 90 = .ok (.iconst 2, 1) := by decide +kernel
theorem dX6_answer_91 : decode cX6_answer 91 = .ok (.iload 6, 2) := by decide +kernel
theorem dX6_answer_93 : decode cX6_answer 93 = .ok (.imul, 1) := by decide +kernel
theorem dX6_answer_94 : decode cX6_answer 94 = .ok (.iconst 5, 1) := by decide +kernel
theorem dX6_answer_95 : decode cX6_answer 95 = .ok (.invokestatic 9, 3) := by decide +kernel
theorem dX6_answer_98 : decode cX6_answer 98 = .ok (.ireturn, 1) := by decide +kernel
theorem dX6_bestQuestion_0 : decode cX6_bestQuestion 0 = .ok (.iconst (-1), 1) := by decide +kernel
theorem dX6_bestQuestion_1 : decode cX6_bestQuestion 1 = .ok (.istore_n 2, 1) := by decide +kernel
theorem dX6_bestQuestion_2 : decode cX6_bestQuestion 2 = .ok (.bipush 7, 2) := by decide +kernel
theorem dX6_bestQuestion_4 : decode cX6_bestQuestion 4 = .ok (.istore_n 3, 1) := by decide +kernel
theorem dX6_bestQuestion_5 : decode cX6_bestQuestion 5 = .ok (.iconst 0, 1) := by decide +kernel
theorem dX6_bestQuestion_6 : decode cX6_bestQuestion 6 = .ok (.istore 4, 2) := by decide +kernel
theorem dX6_bestQuestion_8 : decode cX6_bestQuestion 8 = .ok (.iload 4, 2) := by decide +kernel
theorem dX6_bestQuestion_10 : decode cX6_bestQuestion 10 = .ok (.iconst 1, 1) := by decide +kernel
theorem dX6_bestQuestion_11 : decode cX6_bestQuestion 11 = .ok (.if_icmp .gt 54, 3) := by decide +kernel
theorem dX6_bestQuestion_14 : decode cX6_bestQuestion 14 = .ok (.iconst 1, 1) := by decide +kernel
theorem dX6_bestQuestion_15 : decode cX6_bestQuestion 15 = .ok (.istore 5, 2) := by decide +kernel
theorem dX6_bestQuestion_17 : decode cX6_bestQuestion 17 = .ok (.iload 5, 2) := by decide +kernel
theorem dX6_bestQuestion_19 : decode cX6_bestQuestion 19 = .ok (.bipush 12, 2) := by decide +kernel
theorem dX6_bestQuestion_21 : decode cX6_bestQuestion 21 = .ok (.if_icmp .gt 38, 3) := by decide +kernel
theorem dX6_bestQuestion_24 : decode cX6_bestQuestion 24 = .ok (.aload_n 0, 1) := by decide +kernel
theorem dX6_bestQuestion_25 : decode cX6_bestQuestion 25 = .ok (.iload_n 1, 1) := by decide +kernel
theorem dX6_bestQuestion_26 : decode cX6_bestQuestion 26 = .ok (.iload 5, 2) := by decide +kernel
theorem dX6_bestQuestion_28 : decode cX6_bestQuestion 28 = .ok (.iload 4, 2) := by decide +kernel
theorem dX6_bestQuestion_30 : decode cX6_bestQuestion 30 = .ok (.invokevirtual 15, 3) := by decide +kernel
theorem dX6_bestQuestion_33 : decode cX6_bestQuestion 33 = .ok (.istore 6, 2) := by decide +kernel
theorem dX6_bestQuestion_35 : decode cX6_bestQuestion 35 = .ok (.iload 6, 2) := by decide +kernel
theorem dX6_bestQuestion_37 : decode cX6_bestQuestion 37 = .ok (.iload_n 3, 1) := by decide +kernel
theorem dX6_bestQuestion_38 : decode cX6_bestQuestion 38 = .ok (.if_icmp .ge 15, 3) := by decide +kernel
theorem dX6_bestQuestion_41 : decode cX6_bestQuestion 41 = .ok (.iload 6, 2) := by decide +kernel
theorem dX6_bestQuestion_43 : decode cX6_bestQuestion 43 = .ok (.istore_n 3, 1) := by decide +kernel
theorem dX6_bestQuestion_44 : decode cX6_bestQuestion 44 = .ok (.bipush 100, 2) := by decide +kernel
theorem dX6_bestQuestion_46 : decode cX6_bestQuestion 46 = .ok (.iload 4, 2) := by decide +kernel
theorem dX6_bestQuestion_48 : decode cX6_bestQuestion 48 = .ok (.imul, 1) := by decide +kernel
theorem dX6_bestQuestion_49 : decode cX6_bestQuestion 49 = .ok (.iload 5, 2) := by decide +kernel
theorem dX6_bestQuestion_51 : decode cX6_bestQuestion 51 = .ok (.iadd, 1) := by decide +kernel
theorem dX6_bestQuestion_52 : decode cX6_bestQuestion 52 = .ok (.istore_n 2, 1) := by decide +kernel
theorem dX6_bestQuestion_53 : decode cX6_bestQuestion 53 = .ok (.iinc 5 1, 3) := by decide +kernel
theorem dX6_bestQuestion_56 : decode cX6_bestQuestion 56 = .ok (.goto (-39), 3) := by decide +kernel
theorem dX6_bestQuestion_59 : decode cX6_bestQuestion 59 = .ok (.iinc 4 1, 3) := by decide +kernel
theorem dX6_bestQuestion_62 : decode cX6_bestQuestion 62 = .ok (.goto (-54), 3) := by decide +kernel
theorem dX6_bestQuestion_65 : decode cX6_bestQuestion 65 = .ok (.iload_n 2, 1) := by decide +kernel
theorem dX6_bestQuestion_66 : decode cX6_bestQuestion 66 = .ok (.ireturn, 1) := by decide +kernel
theorem dX7_init_0 : decode cX7_init 0 = .ok (.aload_n 0, 1) := by decide +kernel
theorem dX7_init_1 : decode cX7_init 1 = .ok (.invokespecial 3, 3) := by decide +kernel
theorem dX7_init_4 : decode cX7_init 4 = .ok (.aload_n 0, 1) := by decide +kernel
theorem dX7_init_5 : decode cX7_init 5 = .ok (.iconst 0, 1) := by decide +kernel
theorem dX7_init_6 : decode cX7_init 6 = .ok (.putfield 9, 3) := by decide +kernel
theorem dX7_init_9 : decode cX7_init 9 = .ok (.aload_n 0, 1) := by decide +kernel
theorem dX7_init_10 : decode cX7_init 10 = .ok (.sipush 150, 3) := by decide +kernel
theorem dX7_init_13 : decode cX7_init 13 = .ok (.newarray .int, 2) := by decide +kernel
theorem dX7_init_15 : decode cX7_init 15 = .ok (.putfield 15, 3) := by decide +kernel
theorem dX7_init_18 : decode cX7_init 18 = .ok (.aload_n 0, 1) := by decide +kernel
theorem dX7_init_19 : decode cX7_init 19 = .ok (.iconst 0, 1) := by decide +kernel
theorem dX7_init_20 : decode cX7_init 20 = .ok (.putfield 19, 3) := by decide +kernel
theorem dX7_init_23 : decode cX7_init 23 = .ok (.aload_n 0, 1) := by decide +kernel
theorem dX7_init_24 : decode cX7_init 24 = .ok (.iconst 0, 1) := by decide +kernel
theorem dX7_init_25 : decode cX7_init 25 = .ok (.putfield 22, 3) := by decide +kernel
theorem dX7_init_28 : decode cX7_init 28 = .ok (.aload_n 0, 1) := by decide +kernel
theorem dX7_init_29 : decode cX7_init 29 = .ok (.iconst 0, 1) := by decide +kernel
theorem dX7_init_30 : decode cX7_init 30 = .ok (.putfield 25, 3) := by decide +kernel
theorem dX7_init_33 : decode cX7_init 33 = .ok (.aload_n 0, 1) := by decide +kernel
theorem dX7_init_34 : decode cX7_init 34 = .ok (.iconst 0, 1) := by decide +kernel
theorem dX7_init_35 : decode cX7_init 35 = .ok (.putfield 28, 3) := by decide +kernel
theorem dX7_init_38 : decode cX7_init 38 = .ok (.aload_n 0, 1) := by decide +kernel
theorem dX7_init_39 : decode cX7_init 39 = .ok (.iconst (-1), 1) := by decide +kernel
theorem dX7_init_40 : decode cX7_init 40 = .ok (.putfield 31, 3) := by decide +kernel
theorem dX7_init_43 : decode cX7_init 43 = .ok (.aload_n 0, 1) := by decide +kernel
theorem dX7_init_44 : decode cX7_init 44 = .ok (.iconst 0, 1) := by decide +kernel
theorem dX7_init_45 : decode cX7_init 45 = .ok (.putfield 34, 3) := by decide +kernel
theorem dX7_init_48 : decode cX7_init 48 = .ok (.aload_n 0, 1) := by decide +kernel
theorem dX7_init_49 : decode cX7_init 49 = .ok (.bipush 8, 2) := by decide +kernel
theorem dX7_init_51 : decode cX7_init 51 = .ok (.newarray .int, 2) := by decide +kernel
theorem dX7_init_53 : decode cX7_init 53 = .ok (.putfield 37, 3) := by decide +kernel
theorem dX7_init_56 : decode cX7_init 56 = .ok (.aload_n 0, 1) := by decide +kernel
theorem dX7_init_57 : decode cX7_init 57 = .ok (.iconst 0, 1) := by decide +kernel
theorem dX7_init_58 : decode cX7_init 58 = .ok (.putfield 40, 3) := by decide +kernel
theorem dX7_init_61 : decode cX7_init 61 = .ok (.return_, 1) := by decide +kernel
theorem dX7_append_0 : decode cX7_append 0 = .ok (.aload_n 0, 1) := by decide +kernel
theorem dX7_append_1 : decode cX7_append 1 = .ok (.getfield 9, 3) := by decide +kernel
theorem dX7_append_4 : decode cX7_append 4 = .ok (.iconst 0, 1) := by decide +kernel
theorem dX7_append_5 : decode cX7_append 5 = .ok (.sipush 149, 3) := by decide +kernel
theorem dX7_append_8 : decode cX7_append 8 = .ok (.invokestatic 43, 3) := by decide +kernel
theorem dX7_append_11 : decode cX7_append 11 = .ok (.ifCond .eq 23, 3) := by decide +kernel
theorem dX7_append_14 : decode cX7_append 14 = .ok (.aload_n 0, 1) := by decide +kernel
theorem dX7_append_15 : decode cX7_append 15 = .ok (.getfield 15, 3) := by decide +kernel
theorem dX7_append_18 : decode cX7_append 18 = .ok (.aload_n 0, 1) := by decide +kernel
theorem dX7_append_19 : decode cX7_append 19 = .ok (.getfield 9, 3) := by decide +kernel
theorem dX7_append_22 : decode cX7_append 22 = .ok (.iload_n 1, 1) := by decide +kernel
theorem dX7_append_23 : decode cX7_append 23 = .ok (.iastore, 1) := by decide +kernel
theorem dX7_append_24 : decode cX7_append 24 = .ok (.aload_n 0, 1) := by decide +kernel
theorem dX7_append_25 : decode cX7_append 25 = .ok (.dup, 1) := by decide +kernel
theorem dX7_append_26 : decode cX7_append 26 = .ok (.getfield 9, 3) := by decide +kernel
theorem dX7_append_29 : decode cX7_append 29 = .ok (.iconst 1, 1) := by decide +kernel
theorem dX7_append_30 : decode cX7_append 30 = .ok (.iadd, 1) := by decide +kernel
theorem dX7_append_31 : decode cX7_append 31 = .ok (.putfield 9, 3) := by decide +kernel
theorem dX7_append_34 : decode cX7_append 34 = .ok (.return_, 1) := by decide +kernel
theorem dX7_readInto_0 : decode cX7_readInto 0 = .ok (.aload_n 1, 1) := by decide +kernel
theorem dX7_readInto_1 : decode cX7_readInto 1 = .ok (.invokevirtual 47, 3) := by decide +kernel
theorem dX7_readInto_4 : decode cX7_readInto 4 = .ok (.aload_n 0, 1) := by decide +kernel
theorem dX7_readInto_5 : decode cX7_readInto 5 = .ok (.iconst 0, 1) := by decide +kernel
theorem dX7_readInto_6 : decode cX7_readInto 6 = .ok (.putfield 22, 3) := by decide +kernel
theorem dX7_readInto_9 : decode cX7_readInto 9 = .ok (.aload_n 0, 1) := by decide +kernel
theorem dX7_readInto_10 : decode cX7_readInto 10 = .ok (.iconst (-1), 1) := by decide +kernel
theorem dX7_readInto_11 : decode cX7_readInto 11 = .ok (.putfield 31, 3) := by decide +kernel
theorem dX7_readInto_14 : decode cX7_readInto 14 = .ok (.aload_n 0, 1) := by decide +kernel
theorem dX7_readInto_15 : decode cX7_readInto 15 = .ok (.iconst 0, 1) := by decide +kernel
theorem dX7_readInto_16 : decode cX7_readInto 16 = .ok (.putfield 40, 3) := by decide +kernel
theorem dX7_readInto_19 : decode cX7_readInto 19 = .ok (.iconst 0, 1) := by decide +kernel
theorem dX7_readInto_20 : decode cX7_readInto 20 = .ok (.istore_n 2, 1) := by decide +kernel
theorem dX7_readInto_21 : decode cX7_readInto 21 = .ok (.iload_n 2, 1) := by decide +kernel
theorem dX7_readInto_22 : decode cX7_readInto 22 = .ok (.sipush 150, 3) := by decide +kernel
theorem dX7_readInto_25 : decode cX7_readInto 25 = .ok (.if_icmp .gt 56, 3) := by decide +kernel
theorem dX7_readInto_28 : decode cX7_readInto 28 = .ok (.aload_n 0, 1) := by decide +kernel
theorem dX7_readInto_29 : decode cX7_readInto 29 = .ok (.invokevirtual 52, 3) := by decide +kernel
theorem dX7_readInto_32 : decode cX7_readInto 32 = .ok (.aload_n 0, 1) := by decide +kernel
theorem dX7_readInto_33 : decode cX7_readInto 33 = .ok (.getfield 25, 3) := by decide +kernel
theorem dX7_readInto_36 : decode cX7_readInto 36 = .ok (.ifCond .ne 23, 3) := by decide +kernel
theorem dX7_readInto_39 : decode cX7_readInto 39 = .ok (.aload_n 0, 1) := by decide +kernel
theorem dX7_readInto_40 : decode cX7_readInto 40 = .ok (.getfield 31, 3) := by decide +kernel
theorem dX7_readInto_43 : decode cX7_readInto 43 = .ok (.iconst (-1), 1) := by decide +kernel
theorem dX7_readInto_44 : decode cX7_readInto 44 = .ok (.if_icmp .ne 15, 3) := by decide +kernel
theorem dX7_readInto_47 : decode cX7_readInto 47 = .ok (.aload_n 0, 1) := by decide +kernel
theorem dX7_readInto_48 : decode cX7_readInto 48 = .ok (.getfield 40, 3) := by decide +kernel
theorem dX7_readInto_51 : decode cX7_readInto 51 = .ok (.ifCond .le 8, 3) := by decide +kernel
theorem dX7_readInto_54 : decode cX7_readInto 54 = .ok (.aload_n 0, 1) := by decide +kernel
theorem dX7_readInto_55 : decode cX7_readInto 55 = .ok (.getfield 40, 3) := by decide +kernel
theorem dX7_readInto_58 : decode cX7_readInto 58 = .ok (.ireturn, 1) := by decide +kernel
theorem dX7_readInto_59 : decode cX7_readInto 59 = .ok (.aload_n 0, 1) := by decide +kernel
theorem dX7_readInto_60 : decode cX7_readInto 60 = .ok (.aload_n 1, 1) := by decide +kernel
theorem dX7_readInto_61 : decode cX7_readInto 61 = .ok (.invokevirtual 55, 3) := by decide +kernel
theorem dX7_readInto_64 : decode cX7_readInto 64 = .ok (.ifCond .ne 11, 3) := by decide +kernel
theorem dX7_readInto_67 : decode cX7_readInto 67 = .ok (.bipush (-10), 2) := by decide +kernel
theorem dX7_readInto_69 : decode cX7_readInto 69 = .ok (.aload_n 0, 1) := by decide +kernel
theorem dX7_readInto_70 : decode cX7_readInto 70 = .ok (.getfield 19, 3) := by decide +kernel
theorem dX7_readInto_73 : decode cX7_readInto 73 = .ok (.isub, 1) := by decide +kernel
theorem dX7_readInto_74 : decode cX7_readInto 74 = .ok (.ireturn, 1) := by decide +kernel
theorem dX7_readInto_75 : decode cX7_readInto 75 = .ok (.iinc 2 1, 3) := by decide +kernel
theorem dX7_readInto_78 : decode cX7_readInto 78 = .ok (.goto (-57), 3) := by decide +kernel
theorem dX7_readInto_81 : decode cX7_readInto 81 = .ok (.bipush (-10), 2) := by decide +kernel
theorem dX7_readInto_83 : decode cX7_readInto 83 = .ok (.aload_n 0, 1) := by decide +kernel
theorem dX7_readInto_84 : decode cX7_readInto 84 = .ok (.getfield 19, 3) := by decide +kernel
theorem dX7_readInto_87 : decode cX7_readInto 87 = .ok (.isub, 1) := by decide +kernel
theorem dX7_readInto_88 : decode cX7_readInto 88 = .ok (.ireturn, 1) := by decide +kernel
theorem dX7_takes_0 : decode cX7_takes 0 = .ok (.aload_n 0, 1) := by decide +kernel
theorem dX7_takes_1 : decode cX7_takes 1 = .ok (.getfield 31, 3) := by decide +kernel
theorem dX7_takes_4 : decode cX7_takes 4 = .ok (.iconst (-1), 1) := by decide +kernel
theorem dX7_takes_5 : decode cX7_takes 5 = .ok (.if_icmp .ne 9, 3) := by decide +kernel
theorem dX7_takes_8 : decode cX7_takes 8 = .ok (.aload_n 0, 1) := by decide +kernel
theorem dX7_takes_9 : decode cX7_takes 9 = .ok (.aload_n 1, 1) := by decide +kernel
theorem dX7_takes_10 : decode cX7_takes 10 = .ok (.invokevirtual 59, 3) := by decide +kernel
theorem dX7_takes_13 : decode cX7_takes 13 = .ok (.ireturn, 1) := by decide +kernel
theorem dX7_takes_14 : decode cX7_takes 14 = .ok (.aload_n 0, 1) := by decide +kernel
theorem dX7_takes_15 : decode cX7_takes 15 = .ok (.getfield 34, 3) := by decide +kernel
theorem dX7_takes_18 : decode cX7_takes 18 = .ok (.aload_n 0, 1) := by decide +kernel
theorem dX7_takes_19 : decode cX7_takes 19 = .ok (.getfield 31, 3) := by decide +kernel
theorem dX7_takes_22 : decode cX7_takes 22 = .ok (.invokestatic 62, 3) := by decide +kernel
theorem dX7_takes_25 : decode cX7_takes 25 = .ok (.if_icmp .ge 9, 3) := by decide +kernel
theorem dX7_takes_28 : decode cX7_takes 28 = .ok (.aload_n 0, 1) := by decide +kernel
theorem dX7_takes_29 : decode cX7_takes 29 = .ok (.aload_n 1, 1) := by decide +kernel
theorem dX7_takes_30 : decode cX7_takes 30 = .ok (.invokevirtual 66, 3) := by decide +kernel
theorem dX7_takes_33 : decode cX7_takes 33 = .ok (.ireturn, 1) := by decide +kernel
theorem dX7_takes_34 : decode cX7_takes 34 = .ok (.aload_n 0, 1) := by decide +kernel
theorem dX7_takes_35 : decode cX7_takes 35 = .ok (.getfield 25, 3) := by decide +kernel
theorem dX7_takes_38 : decode cX7_takes 38 = .ok (.iconst 3, 1) := by decide +kernel
theorem dX7_takes_39 : decode cX7_takes 39 = .ok (.if_icmp .eq 5, 3) := by decide +kernel
theorem dX7_takes_42 : decode cX7_takes 42 = .ok (.iconst 0, 1) := by decide +kernel
theorem dX7_takes_43 : decode cX7_takes 43 = .ok (.ireturn, 1) := by decide +kernel
theorem dX7_takes_44 : decode cX7_takes 44 = .ok (.aload_n 0, 1) := by decide +kernel
theorem dX7_takes_45 : decode cX7_takes 45 = .ok (.aload_n 1, 1) := by decide +kernel
theorem dX7_takes_46 : decode cX7_takes 46 = .ok (.invokevirtual 69, 3) := by decide +kernel
theorem dX7_takes_49 : decode cX7_takes 49 = .ok (.aload_n 0, 1) := by decide +kernel
theorem dX7_takes_50 : decode cX7_takes 50 = .ok (.iconst (-1), 1) := by decide +kernel
theorem dX7_takes_51 : decode cX7_takes 51 = .ok (.putfield 31, 3) := by decide +kernel
theorem dX7_takes_54 : decode cX7_takes 54 = .ok (.aload_n 0, 1) := by decide +kernel
theorem dX7_takes_55 : decode cX7_takes 55 = .ok (.dup, 1) := by decide +kernel
theorem dX7_takes_56 : decode cX7_takes 56 = .ok (.getfield 40, 3) := by decide +kernel
theorem dX7_takes_59 : decode cX7_takes 59 = .ok (.iconst 1, 1) := by decide +kernel
theorem dX7_takes_60 : decode cX7_takes 60 = .ok (.iadd, 1) := by decide +kernel
theorem dX7_takes_61 : decode cX7_takes 61 = .ok (.putfield 40, 3) := by decide +kernel
theorem dX7_takes_64 : decode cX7_takes 64 = .ok (.iconst 1, 1) := by decide +kernel
theorem dX7_takes_65 : decode cX7_takes 65 = .ok (.ireturn, 1) := by decide +kernel
theorem dX7_begins_0 : decode cX7_begins 0 = .ok (.aload_n 0, 1) := by decide +kernel
theorem dX7_begins_1 : decode cX7_begins 1 = .ok (.getfield 28, 3) := by decide +kernel
theorem dX7_begins_4 : decode cX7_begins 4 = .ok (.ifCond .ne 7, 3) := by decide +kernel
theorem dX7_begins_7 : decode cX7_begins 7 = .ok (.iconst 1, 1) := by decide +kernel
theorem dX7_begins_8 : decode cX7_begins 8 = .ok (.goto 4, 3) := by decide +kernel
theorem dX7_begins_11 : decode cX7_begins 11 = .ok (.iconst 0, 1) := by decide +kernel
theorem dX7_begins_12 : decode cX7_begins 12 = .ok (.aload_n 0, 1) := by decide +kernel
theorem dX7_begins_13 : decode cX7_begins 13 = .ok (.getfield 40, 3) := by decide +kernel
theorem dX7_begins_16 : decode cX7_begins 16 = .ok (.ifCond .ne 7, 3) := by decide +kernel
theorem dX7_begins_19 : decode cX7_begins 19 = .ok (.iconst 1, 1) := by decide +kernel
theorem dX7_begins_20 : decode cX7_begins 20 = .ok (.goto 4, 3) := by decide +kernel
theorem dX7_begins_23 : decode cX7_begins 23 = .ok (.iconst 0, 1) := by decide +kernel
theorem dX7_begins_24 : decode cX7_begins 24 = .ok (.if_icmp .ne 7, 3) := by decide +kernel
theorem dX7_begins_27 : decode cX7_begins 27 = .ok (.iconst 1, 1) := by decide +kernel
theorem dX7_begins_28 : decode cX7_begins 28 = .ok (.goto 4, 3) := by decide +kernel
theorem dX7_begins_31 : decode cX7_begins 31 = .ok (.iconst 0, 1) := by decide +kernel
theorem dX7_begins_32 : decode cX7_begins 32 = .ok (.istore_n 2, 1) := by decide +kernel
theorem dX7_begins_33 : decode cX7_begins 33 = .ok (.aload_n 0, 1) := by decide +kernel
theorem dX7_begins_34 : decode cX7_begins 34 = .ok (.getfield 28, 3) := by decide +kernel
theorem dX7_begins_37 : decode cX7_begins 37 = .ok (.iconst 1, 1) := by decide +kernel
theorem dX7_begins_38 : decode cX7_begins 38 = .ok (.if_icmp .ne 16, 3) := by decide +kernel
theorem dX7_begins_41 : decode cX7_begins 41 = .ok (.aload_n 1, 1) := by decide +kernel
theorem dX7_begins_42 : decode cX7_begins 42 = .ok (.getfield 73, 3) := by decide +kernel
theorem dX7_begins_45 : decode cX7_begins 45 = .ok (.bipush 6, 2) := by decide +kernel
theorem dX7_begins_47 : decode cX7_begins 47 = .ok (.if_icmp .lt 7, 3) := by decide +kernel
theorem dX7_begins_50 : decode cX7_begins 50 = .ok (.iconst 1, 1) := by decide +kernel
theorem dX7_begins_51 : decode cX7_begins 51 = .ok (.goto 4, 3) := by decide +kernel
theorem dX7_begins_54 : decode cX7_begins 54 = .ok (.iconst 0, 1) := by decide +kernel
theorem dX7_begins_55 : decode cX7_begins 55 = .ok (.istore_n 3, 1) := by decide +kernel
theorem dX7_begins_56 : decode cX7_begins 56 = .ok (.aload_n 0, 1) := by decide +kernel
theorem dX7_begins_57 : decode cX7_begins 57 = .ok (.getfield 25, 3) := by decide +kernel
theorem dX7_begins_60 : decode cX7_begins 60 = .ok (.iconst 1, 1) := by decide +kernel
theorem dX7_begins_61 : decode cX7_begins 61 = .ok (.if_icmp .ne 11, 3) := by decide +kernel
theorem dX7_begins_64 : decode cX7_begins 64 = .ok (.iload_n 2, 1) := by decide +kernel
theorem dX7_begins_65 : decode cX7_begins 65 = .ok (.ifCond .eq 7, 3) := by decide +kernel
theorem dX7_begins_68 : decode cX7_begins 68 = .ok (.iload_n 3, 1) := by decide +kernel
theorem dX7_begins_69 : decode cX7_begins 69 = .ok (.ifCond .eq 5, 3) := by decide +kernel
theorem dX7_begins_72 : decode cX7_begins 72 = .ok (.iconst 0, 1) := by decide +kernel
theorem dX7_begins_73 : decode cX7_begins 73 = .ok (.ireturn, 1) := by decide +kernel
theorem dX7_begins_74 : decode cX7_begins 74 = .ok (.aload_n 0, 1) := by decide +kernel
theorem dX7_begins_75 : decode cX7_begins 75 = .ok (.aload_n 0, 1) := by decide +kernel
theorem dX7_begins_76 : decode cX7_begins 76 = .ok (.getfield 28, 3) := by decide +kernel
theorem dX7_begins_79 : decode cX7_begins 79 = .ok (.putfield 31, 3) := by decide +kernel
theorem dX7_begins_82 : decode cX7_begins 82 = .ok (.aload_n 0, 1) := by decide +kernel
theorem dX7_begins_83 : decode cX7_begins 83 = .ok (.iconst 0, 1) := by decide +kernel
theorem dX7_begins_84 : decode cX7_begins 84 = .ok (.putfield 34, 3) := by decide +kernel
theorem dX7_begins_87 : decode cX7_begins 87 = .ok (.iconst 1, 1) := by decide +kernel
theorem dX7_begins_88 : decode cX7_begins 88 = .ok (.ireturn, 1) := by decide +kernel
theorem dX7_takesNumber_0 : decode cX7_takesNumber 0 = .ok (.aload_n 0, 1) := by decide +kernel
theorem dX7_takesNumber_1 : decode cX7_takesNumber 1 = .ok (.getfield 25, 3) := by decide +kernel
theorem dX7_takesNumber_4 : decode cX7_takesNumber 4 = .ok (.iconst 2, 1) := by decide +kernel
theorem dX7_takesNumber_5 : decode cX7_takesNumber 5 = .ok (.if_icmp .ne 29, 3) := by decide +kernel
theorem dX7_takesNumber_8 : decode cX7_takesNumber 8 = .ok (.aload_n 0, 1) := by decide +kernel
theorem dX7_takesNumber_9 : decode cX7_takesNumber 9 = .ok (.getfield 28, 3) := by decide +kernel
theorem dX7_takesNumber_12 : decode cX7_takesNumber 12 = .ok (.aload_n 0, 1) := by decide +kernel
theorem dX7_takesNumber_13 : decode cX7_takesNumber 13 = .ok (.invokevirtual 76, 3) := by decide +kernel
theorem dX7_takesNumber_16 : decode cX7_takesNumber 16 = .ok (.aload_n 0, 1) := by decide +kernel
theorem dX7_takesNumber_17 : decode cX7_takesNumber 17 = .ok (.aload_n 1, 1) := by decide +kernel
theorem dX7_takesNumber_18 : decode cX7_takesNumber 18 = .ok (.getfield 73, 3) := by decide +kernel
theorem dX7_takesNumber_21 : decode cX7_takesNumber 21 = .ok (.invokevirtual 80, 3) := by decide +kernel
theorem dX7_takesNumber_24 : decode cX7_takesNumber 24 = .ok (.invokestatic 43, 3) := by decide +kernel
theorem dX7_takesNumber_27 : decode cX7_takesNumber 27 = .ok (.ifCond .eq 7, 3) := by decide +kernel
theorem dX7_takesNumber_30 : decode cX7_takesNumber 30 = .ok (.iconst 1, 1) := by decide +kernel
theorem dX7_takesNumber_31 : decode cX7_takesNumber 31 = .ok (.goto 4, 3) := by decide +kernel
theorem dX7_takesNumber_34 : decode cX7_takesNumber 34 = .ok (.iconst 0, 1) := by decide +kernel
theorem dX7_takesNumber_35 : decode cX7_takesNumber 35 = .ok (.istore_n 2, 1) := by decide +kernel
theorem dX7_takesNumber_36 : decode cX7_takesNumber 36 = .ok (.iload_n 2, 1) := by decide +kernel
theorem dX7_takesNumber_37 : decode cX7_takesNumber 37 = .ok (.ifCond .eq 16, 3) := by decide +kernel
theorem dX7_takesNumber_40 : decode cX7_takesNumber 40 = .ok (.aload_n 0, 1) := by decide +kernel
theorem dX7_takesNumber_41 : decode cX7_takesNumber 41 = .ok (.getfield 34, 3) := by decide +kernel
theorem dX7_takesNumber_44 : decode cX7_takesNumber 44 = .ok (.iconst 0, 1) := by decide +kernel
theorem dX7_takesNumber_45 : decode cX7_takesNumber 45 = .ok (.bipush 7, 2) := by decide +kernel
theorem dX7_takesNumber_47 : decode cX7_takesNumber 47 = .ok (.invokestatic 43, 3) := by decide +kernel
theorem dX7_takesNumber_50 : decode cX7_takesNumber 50 = .ok (.ifCond .ne 5, 3) := by decide +kernel
theorem dX7_takesNumber_53 : decode cX7_takesNumber 53 = .ok (.iconst 0, 1) := by decide +kernel
theorem dX7_takesNumber_54 : decode cX7_takesNumber 54 = .ok (.ireturn, 1) := by decide +kernel
theorem dX7_takesNumber_55 : decode cX7_takesNumber 55 = .ok (.aload_n 0, 1) := by decide +kernel
theorem dX7_takesNumber_56 : decode cX7_takesNumber 56 = .ok (.getfield 37, 3) := by decide +kernel
theorem dX7_takesNumber_59 : decode cX7_takesNumber 59 = .ok (.aload_n 0, 1) := by decide +kernel
theorem dX7_takesNumber_60 : decode cX7_takesNumber 60 = .ok (.getfield 34, 3) := by decide +kernel
theorem dX7_takesNumber_63 : decode cX7_takesNumber 63 = .ok (.aload_n 0, 1) := by decide +kernel
theorem dX7_takesNumber_64 : decode cX7_takesNumber 64 = .ok (.getfield 28, 3) := by decide +kernel
theorem dX7_takesNumber_67 : decode cX7_takesNumber 67 = .ok (.iastore, 1) := by decide +kernel
theorem dX7_takesNumber_68 : decode cX7_takesNumber 68 = .ok (.aload_n 0, 1) := by decide +kernel
theorem dX7_takesNumber_69 : decode cX7_takesNumber 69 = .ok (.dup, 1) := by decide +kernel
theorem dX7_takesNumber_70 : decode cX7_takesNumber 70 = .ok (.getfield 34, 3) := by decide +kernel
theorem dX7_takesNumber_73 : decode cX7_takesNumber 73 = .ok (.iconst 1, 1) := by decide +kernel
theorem dX7_takesNumber_74 : decode cX7_takesNumber 74 = .ok (.iadd, 1) := by decide +kernel
theorem dX7_takesNumber_75 : decode cX7_takesNumber 75 = .ok (.putfield 34, 3) := by decide +kernel
theorem dX7_takesNumber_78 : decode cX7_takesNumber 78 = .ok (.iconst 1, 1) := by decide +kernel
theorem dX7_takesNumber_79 : decode cX7_takesNumber 79 = .ok (.ireturn, 1) := by decide +kernel
theorem dX7_numbersOf_0 : decode cX7_numbersOf 0 = .ok (.iload_n 0, 1) := by decide +kernel
theorem dX7_numbersOf_1 : decode cX7_numbersOf 1 = .ok (.lookupswitch 40 #[(0, 35), (3, 38), (5, 38)], 35) := by decide +kernel
theorem dX7_numbersOf_36 : decode cX7_numbersOf 36 = .ok (.bipush 8, 2) := by decide +kernel
theorem dX7_numbersOf_38 : decode cX7_numbersOf 38 = .ok (.ireturn, 1) := by decide +kernel
theorem dX7_numbersOf_39 : decode cX7_numbersOf 39 = .ok (.iconst 1, 1) := by decide +kernel
theorem dX7_numbersOf_40 : decode cX7_numbersOf 40 = .ok (.ireturn, 1) := by decide +kernel
theorem dX7_numbersOf_41 : decode cX7_numbersOf 41 = .ok (.iconst 2, 1) := by decide +kernel
theorem dX7_numbersOf_42 : decode cX7_numbersOf 42 = .ok (.ireturn, 1) := by decide +kernel
theorem dX7_lowest_0 : decode cX7_lowest 0 = .ok (.aload_n 0, 1) := by decide +kernel
theorem dX7_lowest_1 : decode cX7_lowest 1 = .ok (.getfield 31, 3) := by decide +kernel
theorem dX7_lowest_4 : decode cX7_lowest 4 = .ok (.iconst 5, 1) := by decide +kernel
theorem dX7_lowest_5 : decode cX7_lowest 5 = .ok (.if_icmp .eq 19, 3) := by decide +kernel
theorem dX7_lowest_8 : decode cX7_lowest 8 = .ok (.aload_n 0, 1) := by decide +kernel
theorem dX7_lowest_9 : decode cX7_lowest 9 = .ok (.getfield 31, 3) := by decide +kernel
theorem dX7_lowest_12 : decode cX7_lowest 12 = .ok (.iconst 1, 1) := by decide +kernel
theorem dX7_lowest_13 : decode cX7_lowest 13 = .ok (.if_icmp .ne 15, 3) := by decide +kernel
theorem dX7_lowest_16 : decode cX7_lowest 16 = .ok (.aload_n 0, 1) := by decide +kernel
theorem dX7_lowest_17 : decode cX7_lowest 17 = .ok (.getfield 34, 3) := by decide +kernel
theorem dX7_lowest_20 : decode cX7_lowest 20 = .ok (.iconst 1, 1) := by decide +kernel
theorem dX7_lowest_21 : decode cX7_lowest 21 = .ok (.if_icmp .ne 7, 3) := by decide +kernel
theorem dX7_lowest_24 : decode cX7_lowest 24 = .ok (.iconst 1, 1) := by decide +kernel
theorem dX7_lowest_25 : decode cX7_lowest 25 = .ok (.goto 4, 3) := by decide +kernel
theorem dX7_lowest_28 : decode cX7_lowest 28 = .ok (.iconst 0, 1) := by decide +kernel
theorem dX7_lowest_29 : decode cX7_lowest 29 = .ok (.istore_n 1, 1) := by decide +kernel
theorem dX7_lowest_30 : decode cX7_lowest 30 = .ok (.iload_n 1, 1) := by decide +kernel
theorem dX7_lowest_31 : decode cX7_lowest 31 = .ok (.ifCond .eq 7, 3) := by decide +kernel
theorem dX7_lowest_34 : decode cX7_lowest 34 = .ok (.iconst 1, 1) := by decide +kernel
theorem dX7_lowest_35 : decode cX7_lowest 35 = .ok (.goto 4, 3) := by decide +kernel
theorem dX7_lowest_38 : decode cX7_lowest 38 = .ok (.iconst 0, 1) := by decide +kernel
theorem dX7_lowest_39 : decode cX7_lowest 39 = .ok (.ireturn, 1) := by decide +kernel
theorem dX7_highest_0 : decode cX7_highest 0 = .ok (.aload_n 0, 1) := by decide +kernel
theorem dX7_highest_1 : decode cX7_highest 1 = .ok (.getfield 31, 3) := by decide +kernel
theorem dX7_highest_4 : decode cX7_highest 4 = .ok (.tableswitch 87 0 4 #[36, 38, 52, 68, 71], 36) := by decide +kernel
theorem dX7_highest_40 : decode cX7_highest 40 = .ok (.iconst 5, 1) := by decide +kernel
theorem dX7_highest_41 : decode cX7_highest 41 = .ok (.ireturn, 1) := by decide +kernel
theorem dX7_highest_42 : decode cX7_highest 42 = .ok (.aload_n 0, 1) := by decide +kernel
theorem dX7_highest_43 : decode cX7_highest 43 = .ok (.getfield 34, 3) := by decide +kernel
theorem dX7_highest_46 : decode cX7_highest 46 = .ok (.ifCond .ne 7, 3) := by decide +kernel
theorem dX7_highest_49 : decode cX7_highest 49 = .ok (.iconst 5, 1) := by decide +kernel
theorem dX7_highest_50 : decode cX7_highest 50 = .ok (.goto 5, 3) := by decide +kernel
theorem dX7_highest_53 : decode cX7_highest 53 = .ok (.bipush 12, 2) := by decide +kernel
theorem dX7_highest_55 : decode cX7_highest 55 = .ok (.ireturn, 1) := by decide +kernel
theorem dX7_highest_56 : decode cX7_highest 56 = .ok (.aload_n 0, 1) := by decide +kernel
theorem dX7_highest_57 : decode cX7_highest 57 = .ok (.getfield 34, 3) := by decide +kernel
theorem dX7_highest_60 : decode cX7_highest 60 = .ok (.ifCond .ne 9, 3) := by decide +kernel
theorem dX7_highest_63 : decode cX7_highest 63 = .ok (.iload_n 1, 1) := by decide +kernel
theorem dX7_highest_64 : decode cX7_highest 64 = .ok (.iconst 1, 1) := by decide +kernel
theorem dX7_highest_65 : decode cX7_highest 65 = .ok (.isub, 1) := by decide +kernel
theorem dX7_highest_66 : decode cX7_highest 66 = .ok (.goto 5, 3) := by decide +kernel
theorem dX7_highest_69 : decode cX7_highest 69 = .ok (.bipush 7, 2) := by decide +kernel
theorem dX7_highest_71 : decode cX7_highest 71 = .ok (.ireturn, 1) := by decide +kernel
theorem dX7_highest_72 : decode cX7_highest 72 = .ok (.bipush 6, 2) := by decide +kernel
theorem dX7_highest_74 : decode cX7_highest 74 = .ok (.ireturn, 1) := by decide +kernel
theorem dX7_highest_75 : decode cX7_highest 75 = .ok (.aload_n 0, 1) := by decide +kernel
theorem dX7_highest_76 : decode cX7_highest 76 = .ok (.getfield 34, 3) := by decide +kernel
theorem dX7_highest_79 : decode cX7_highest 79 = .ok (.ifCond .ne 9, 3) := by decide +kernel
theorem dX7_highest_82 : decode cX7_highest 82 = .ok (.iload_n 1, 1) := by decide +kernel
theorem dX7_highest_83 : decode cX7_highest 83 = .ok (.iconst 1, 1) := by decide +kernel
theorem dX7_highest_84 : decode cX7_highest 84 = .ok (.isub, 1) := by decide +kernel
theorem dX7_highest_85 : decode cX7_highest 85 = .ok (.goto 5, 3) := by decide +kernel
theorem dX7_highest_88 : decode cX7_highest 88 = .ok (.bipush 8, 2) := by decide +kernel
theorem dX7_highest_90 : decode cX7_highest 90 = .ok (.ireturn, 1) := by decide +kernel
theorem dX7_highest_91 : decode cX7_highest 91 = .ok (.bipush 99, 2) := by decide +kernel
theorem dX7_highest_93 : decode cX7_highest 93 = .ok (.ireturn, 1) := by decide +kernel
theorem dX7_settle_0 : decode cX7_settle 0 = .ok (.aload_n 0, 1) := by decide +kernel
theorem dX7_settle_1 : decode cX7_settle 1 = .ok (.getfield 37, 3) := by decide +kernel
theorem dX7_settle_4 : decode cX7_settle 4 = .ok (.iconst 0, 1) := by decide +kernel
theorem dX7_settle_5 : decode cX7_settle 5 = .ok (.iaload, 1) := by decide +kernel
theorem dX7_settle_6 : decode cX7_settle 6 = .ok (.istore_n 2, 1) := by decide +kernel
theorem dX7_settle_7 : decode cX7_settle 7 = .ok (.aload_n 0, 1) := by decide +kernel
theorem dX7_settle_8 : decode cX7_settle 8 = .ok (.getfield 37, 3) := by decide +kernel
theorem dX7_settle_11 : decode cX7_settle 11 = .ok (.iconst 1, 1) := by decide +kernel
theorem dX7_settle_12 : decode cX7_settle 12 = .ok (.iaload, 1) := by decide +kernel
theorem dX7_settle_13 : decode cX7_settle 13 = .ok (.istore_n 3, 1) := by decide +kernel
theorem dX7_settle_14 : decode cX7_settle 14 = .ok (.aload_n 0, 1) := by decide +kernel
theorem dX7_settle_15 : decode cX7_settle 15 = .ok (.getfield 31, 3) := by decide +kernel
theorem dX7_settle_18 : decode cX7_settle 18 = .ok (.tableswitch 96 0 4 #[34, 45, 54, 66, 84], 34) := by decide +kernel
theorem dX7_settle_52 : decode cX7_settle 52 = .ok (.aload_n 0, 1) := by decide +kernel
theorem dX7_settle_53 : decode cX7_settle 53 = .ok (.aload_n 1, 1) := by decide +kernel
theorem dX7_settle_54 : decode cX7_settle 54 = .ok (.getfield 83, 3) := by decide +kernel
theorem dX7_settle_57 : decode cX7_settle 57 = .ok (.invokevirtual 87, 3) := by decide +kernel
theorem dX7_settle_60 : decode cX7_settle 60 = .ok (.goto 62, 3) := by decide +kernel
theorem dX7_settle_63 : decode cX7_settle 63 = .ok (.aload_n 1, 1) := by decide +kernel
theorem dX7_settle_64 : decode cX7_settle 64 = .ok (.iload_n 2, 1) := by decide +kernel
theorem dX7_settle_65 : decode cX7_settle 65 = .ok (.iload_n 3, 1) := by decide +kernel
theorem dX7_settle_66 : decode cX7_settle 66 = .ok (.invokevirtual 91, 3) := by decide +kernel
theorem dX7_settle_69 : decode cX7_settle 69 = .ok (.goto 53, 3) := by decide +kernel
theorem dX7_settle_72 : decode cX7_settle 72 = .ok (.aload_n 1, 1) := by decide +kernel
theorem dX7_settle_73 : decode cX7_settle 73 = .ok (.getfield 83, 3) := by decide +kernel
theorem dX7_settle_76 : decode cX7_settle 76 = .ok (.iload_n 2, 1) := by decide +kernel
theorem dX7_settle_77 : decode cX7_settle 77 = .ok (.iload_n 3, 1) := by decide +kernel
theorem dX7_settle_78 : decode cX7_settle 78 = .ok (.invokevirtual 95, 3) := by decide +kernel
theorem dX7_settle_81 : decode cX7_settle 81 = .ok (.goto 41, 3) := by decide +kernel
theorem dX7_settle_84 : decode cX7_settle 84 = .ok (.aload_n 1, 1) := by decide +kernel
theorem dX7_settle_85 : decode cX7_settle 85 = .ok (.getfield 83, 3) := by decide +kernel
theorem dX7_settle_88 : decode cX7_settle 88 = .ok (.dup, 1) := by decide +kernel
theorem dX7_settle_89 : decode cX7_settle 89 = .ok (.getfield 100, 3) := by decide +kernel
theorem dX7_settle_92 : decode cX7_settle 92 = .ok (.iconst 1, 1) := by decide +kernel
theorem dX7_settle_93 : decode cX7_settle 93 = .ok (.iload_n 2, 1) := by decide +kernel
theorem dX7_settle_94 : decode cX7_settle 94 = .ok (.ishl, 1) := by decide +kernel
theorem dX7_settle_95 : decode cX7_settle 95 = .ok (.ior, 1) := by decide +kernel
theorem dX7_settle_96 : decode cX7_settle 96 = .ok (.putfield 100, 3) := by decide +kernel
theorem dX7_settle_99 : decode cX7_settle 99 = .ok (.goto 23, 3) := by decide +kernel
theorem dX7_settle_102 : decode cX7_settle 102 = .ok (.aload_n 1, 1) := by decide +kernel
theorem dX7_settle_103 : decode cX7_settle 103 = .ok (.getfield 83, 3) := by decide +kernel
theorem dX7_settle_106 : decode cX7_settle 106 = .ok (.iload_n 2, 1) := by decide +kernel
theorem dX7_settle_107 : decode cX7_settle 107 = .ok (.iload_n 3, 1) := by decide +kernel
theorem dX7_settle_108 : decode cX7_settle 108 = .ok (.invokevirtual 103, 3) := by decide +kernel
theorem dX7_settle_111 : decode cX7_settle 111 = .ok (.goto 11, 3) := by decide +kernel
theorem dX7_settle_114 : decode cX7_settle 114 = .ok (.aload_n 1, 1) := by decide +kernel
theorem dX7_settle_115 : decode cX7_settle 115 = .ok (.getfield 83, 3) := by decide +kernel
theorem dX7_settle_118 : decode cX7_settle 118 = .ok (.iload_n 2, 1) := by decide +kernel
theorem dX7_settle_119 : decode cX7_settle 119 = .ok (.invokevirtual 106, 3) := by decide +kernel
theorem dX7_settle_122 : decode cX7_settle 122 = .ok (.return_, 1) := by decide +kernel
theorem dX7_settleKinds_0 : decode cX7_settleKinds 0 = .ok (.iconst 0, 1) := by decide +kernel
theorem dX7_settleKinds_1 : decode cX7_settleKinds 1 = .ok (.istore_n 2, 1) := by decide +kernel
theorem dX7_settleKinds_2 : decode cX7_settleKinds 2 = .ok (.iload_n 2, 1) := by decide +kernel
theorem dX7_settleKinds_3 : decode cX7_settleKinds 3 = .ok (.bipush 8, 2) := by decide +kernel
theorem dX7_settleKinds_5 : decode cX7_settleKinds 5 = .ok (.if_icmp .ge 21, 3) := by decide +kernel
theorem dX7_settleKinds_8 : decode cX7_settleKinds 8 = .ok (.aload_n 1, 1) := by decide +kernel
theorem dX7_settleKinds_9 : decode cX7_settleKinds 9 = .ok (.getfield 110, 3) := by decide +kernel
theorem dX7_settleKinds_12 : decode cX7_settleKinds 12 = .ok (.iload_n 2, 1) := by decide +kernel
theorem dX7_settleKinds_13 : decode cX7_settleKinds 13 = .ok (.aload_n 0, 1) := by decide +kernel
theorem dX7_settleKinds_14 : decode cX7_settleKinds 14 = .ok (.getfield 37, 3) := by decide +kernel
theorem dX7_settleKinds_17 : decode cX7_settleKinds 17 = .ok (.iload_n 2, 1) := by decide +kernel
theorem dX7_settleKinds_18 : decode cX7_settleKinds 18 = .ok (.iaload, 1) := by decide +kernel
theorem dX7_settleKinds_19 : decode cX7_settleKinds 19 = .ok (.iastore, 1) := by decide +kernel
theorem dX7_settleKinds_20 : decode cX7_settleKinds 20 = .ok (.iinc 2 1, 3) := by decide +kernel
theorem dX7_settleKinds_23 : decode cX7_settleKinds 23 = .ok (.goto (-21), 3) := by decide +kernel
theorem dX7_settleKinds_26 : decode cX7_settleKinds 26 = .ok (.return_, 1) := by decide +kernel
theorem dX7_nextToken_0 : decode cX7_nextToken 0 = .ok (.aload_n 0, 1) := by decide +kernel
theorem dX7_nextToken_1 : decode cX7_nextToken 1 = .ok (.aload_n 0, 1) := by decide +kernel
theorem dX7_nextToken_2 : decode cX7_nextToken 2 = .ok (.aload_n 0, 1) := by decide +kernel
theorem dX7_nextToken_3 : decode cX7_nextToken 3 = .ok (.getfield 22, 3) := by decide +kernel
theorem dX7_nextToken_6 : decode cX7_nextToken 6 = .ok (.bipush 32, 2) := by decide +kernel
theorem dX7_nextToken_8 : decode cX7_nextToken 8 = .ok (.bipush 32, 2) := by decide +kernel
theorem dX7_nextToken_10 : decode cX7_nextToken 10 = .ok (.invokevirtual 113, 3) := by decide +kernel
theorem dX7_nextToken_13 : decode cX7_nextToken 13 = .ok (.putfield 19, 3) := by decide +kernel
theorem dX7_nextToken_16 : decode cX7_nextToken 16 = .ok (.aload_n 0, 1) := by decide +kernel
theorem dX7_nextToken_17 : decode cX7_nextToken 17 = .ok (.aload_n 0, 1) := by decide +kernel
theorem dX7_nextToken_18 : decode cX7_nextToken 18 = .ok (.getfield 19, 3) := by decide +kernel
theorem dX7_nextToken_21 : decode cX7_nextToken 21 = .ok (.iconst 1, 1) := by decide +kernel
theorem dX7_nextToken_22 : decode cX7_nextToken 22 = .ok (.iadd, 1) := by decide +kernel
theorem dX7_nextToken_23 : decode cX7_nextToken 23 = .ok (.putfield 22, 3) := by decide +kernel
theorem dX7_nextToken_26 : decode cX7_nextToken 26 = .ok (.aload_n 0, 1) := by decide +kernel
theorem dX7_nextToken_27 : decode cX7_nextToken 27 = .ok (.iconst 0, 1) := by decide +kernel
theorem dX7_nextToken_28 : decode cX7_nextToken 28 = .ok (.putfield 28, 3) := by decide +kernel
theorem dX7_nextToken_31 : decode cX7_nextToken 31 = .ok (.aload_n 0, 1) := by decide +kernel
theorem dX7_nextToken_32 : decode cX7_nextToken 32 = .ok (.aload_n 0, 1) := by decide +kernel
theorem dX7_nextToken_33 : decode cX7_nextToken 33 = .ok (.getfield 19, 3) := by decide +kernel
theorem dX7_nextToken_36 : decode cX7_nextToken 36 = .ok (.invokevirtual 117, 3) := by decide +kernel
theorem dX7_nextToken_39 : decode cX7_nextToken 39 = .ok (.istore_n 1, 1) := by decide +kernel
theorem dX7_nextToken_40 : decode cX7_nextToken 40 = .ok (.iload_n 1, 1) := by decide +kernel
theorem dX7_nextToken_41 : decode cX7_nextToken 41 = .ok (.iconst (-1), 1) := by decide +kernel
theorem dX7_nextToken_42 : decode cX7_nextToken 42 = .ok (.if_icmp .ne 19, 3) := by decide +kernel
theorem dX7_nextToken_45 : decode cX7_nextToken 45 = .ok (.aload_n 0, 1) := by decide +kernel
theorem dX7_nextToken_46 : decode cX7_nextToken 46 = .ok (.iconst 0, 1) := by decide +kernel
theorem dX7_nextToken_47 : decode cX7_nextToken 47 = .ok (.putfield 25, 3) := by decide +kernel
theorem dX7_nextToken_50 : decode cX7_nextToken 50 = .ok (.aload_n 0, 1) := by decide +kernel
theorem dX7_nextToken_51 : decode cX7_nextToken 51 = .ok (.aload_n 0, 1) := by decide +kernel
theorem dX7_nextToken_52 : decode cX7_nextToken 52 = .ok (.getfield 19, 3) := by decide +kernel
theorem dX7_nextToken_55 : decode cX7_nextToken 55 = .ok (.putfield 22, 3) := by decide +kernel
theorem dX7_nextToken_58 : decode cX7_nextToken 58 = .ok (.goto 137, 3) := by decide +kernel
theorem dX7_nextToken_61 : decode cX7_nextToken 61 = .ok (.iload_n 1, 1) := by decide +kernel
theorem dX7_nextToken_62 : decode cX7_nextToken 62 = .ok (.bipush 59, 2) := by decide +kernel
theorem dX7_nextToken_64 : decode cX7_nextToken 64 = .ok (.if_icmp .ne 11, 3) := by decide +kernel
theorem dX7_nextToken_67 : decode cX7_nextToken 67 = .ok (.aload_n 0, 1) := by decide +kernel
theorem dX7_nextToken_68 : decode cX7_nextToken 68 = .ok (.iconst 3, 1) := by decide +kernel
theorem dX7_nextToken_69 : decode cX7_nextToken 69 = .ok (.putfield 25, 3) := by decide +kernel
theorem dX7_nextToken_72 : decode cX7_nextToken 72 = .ok (.goto 123, 3) := by decide +kernel
theorem dX7_nextToken_75 : decode cX7_nextToken 75 = .ok (.iload_n 1, 1) := by decide +kernel
theorem dX7_nextToken_76 : decode cX7_nextToken 76 = .ok (.bipush 97, 2) := by decide +kernel
theorem dX7_nextToken_78 : decode cX7_nextToken 78 = .ok (.bipush 122, 2) := by decide +kernel
theorem dX7_nextToken_80 : decode cX7_nextToken 80 = .ok (.invokestatic 43, 3) := by decide +kernel
theorem dX7_nextToken_83 : decode cX7_nextToken 83 = .ok (.ifCond .eq 47, 3) := by decide +kernel
theorem dX7_nextToken_86 : decode cX7_nextToken 86 = .ok (.aload_n 0, 1) := by decide +kernel
theorem dX7_nextToken_87 : decode cX7_nextToken 87 = .ok (.aload_n 0, 1) := by decide +kernel
theorem dX7_nextToken_88 : decode cX7_nextToken 88 = .ok (.aload_n 0, 1) := by decide +kernel
theorem dX7_nextToken_89 : decode cX7_nextToken 89 = .ok (.getfield 19, 3) := by decide +kernel
theorem dX7_nextToken_92 : decode cX7_nextToken 92 = .ok (.bipush 97, 2) := by decide +kernel
theorem dX7_nextToken_94 : decode cX7_nextToken 94 = .ok (.bipush 122, 2) := by decide +kernel
theorem dX7_nextToken_96 : decode cX7_nextToken 96 = .ok (.invokevirtual 113, 3) := by decide +kernel
theorem dX7_nextToken_99 : decode cX7_nextToken 99 = .ok (.putfield 22, 3) := by decide +kernel
theorem dX7_nextToken_102 : decode cX7_nextToken 102 = .ok (.aload_n 0, 1) := by decide +kernel
theorem dX7_nextToken_103 : decode cX7_nextToken 103 = .ok (.aload_n 0, 1) := by decide +kernel
theorem dX7_nextToken_104 : decode cX7_nextToken 104 = .ok (.invokevirtual 120, 3) := by decide +kernel
theorem dX7_nextToken_107 : decode cX7_nextToken 107 = .ok (.putfield 28, 3) := by decide +kernel
theorem dX7_nextToken_110 : decode cX7_nextToken 110 = .ok (.aload_n 0, 1) := by decide +kernel
theorem dX7_nextToken_111 : decode cX7_nextToken 111 = .ok (.aload_n 0, 1) := by decide +kernel
theorem dX7_nextToken_112 : decode cX7_nextToken 112 = .ok (.getfield 28, 3) := by decide +kernel
theorem dX7_nextToken_115 : decode cX7_nextToken 115 = .ok (.iconst (-1), 1) := by decide +kernel
theorem dX7_nextToken_116 : decode cX7_nextToken 116 = .ok (.if_icmp .ne 7, 3) := by decide +kernel
theorem dX7_nextToken_119 : decode cX7_nextToken 119 = .ok (.iconst 4, 1) := by decide +kernel
theorem dX7_nextToken_120 : decode cX7_nextToken 120 = .ok (.goto 4, 3) := by decide +kernel
theorem dX7_nextToken_123 : decode cX7_nextToken 123 = .ok (.iconst 1, 1) := by decide +kernel
theorem dX7_nextToken_124 : decode cX7_nextToken 124 = .ok (.putfield 25, 3) := by decide +kernel
theorem dX7_nextToken_127 : decode cX7_nextToken 127 = .ok (.goto 68, 3) := by decide +kernel
theorem dX7_nextToken_130 : decode cX7_nextToken 130 = .ok (.iload_n 1, 1) := by decide +kernel
theorem dX7_nextToken_131 : decode cX7_nextToken 131 = .ok (.bipush 48, 2) := by decide +kernel
theorem dX7_nextToken_133 : decode cX7_nextToken 133 = .ok (.bipush 57, 2) := by decide +kernel
theorem dX7_nextToken_135 : decode cX7_nextToken 135 = .ok (.invokestatic 43, 3) := by decide +kernel
theorem dX7_nextToken_138 : decode cX7_nextToken 138 = .ok (.ifCond .eq 52, 3) := by decide +kernel
theorem dX7_nextToken_141 : decode cX7_nextToken 141 = .ok (.aload_n 0, 1) := by decide +kernel
theorem dX7_nextToken_142 : decode cX7_nextToken 142 = .ok (.aload_n 0, 1) := by decide +kernel
theorem dX7_nextToken_143 : decode cX7_nextToken 143 = .ok (.aload_n 0, 1) := by decide +kernel
theorem dX7_nextToken_144 : decode cX7_nextToken 144 = .ok (.getfield 19, 3) := by decide +kernel
theorem dX7_nextToken_147 : decode cX7_nextToken 147 = .ok (.bipush 48, 2) := by decide +kernel
theorem dX7_nextToken_149 : decode cX7_nextToken 149 = .ok (.bipush 57, 2) := by decide +kernel
theorem dX7_nextToken_151 : decode cX7_nextToken 151 = .ok (.invokevirtual 113, 3) := by decide +kernel
theorem dX7_nextToken_154 : decode cX7_nextToken 154 = .ok (.putfield 22, 3) := by decide +kernel
theorem dX7_nextToken_157 : decode cX7_nextToken 157 = .ok (.aload_n 0, 1) := by decide +kernel
theorem dX7_nextToken_158 : decode cX7_nextToken 158 = .ok (.aload_n 0, 1) := by decide +kernel
theorem dX7_nextToken_159 : decode cX7_nextToken 159 = .ok (.getfield 22, 3) := by decide +kernel
theorem dX7_nextToken_162 : decode cX7_nextToken 162 = .ok (.aload_n 0, 1) := by decide +kernel
theorem dX7_nextToken_163 : decode cX7_nextToken 163 = .ok (.getfield 19, 3) := by decide +kernel
theorem dX7_nextToken_166 : decode cX7_nextToken 166 = .ok (.isub, 1) := by decide +kernel
theorem dX7_nextToken_167 : decode cX7_nextToken 167 = .ok (.iconst 2, 1) := by decide +kernel
theorem dX7_nextToken_168 : decode cX7_nextToken 168 = .ok (.if_icmp .le 7, 3) := by decide +kernel
theorem dX7_nextToken_171 : decode cX7_nextToken 171 = .ok (.iconst 4, 1) := by decide +kernel
theorem dX7_nextToken_172 : decode cX7_nextToken 172 = .ok (.goto 4, 3) := by decide +kernel
theorem dX7_nextToken_175 : decode cX7_nextToken 175 = .ok (.iconst 2, 1) := by decide +kernel
theorem dX7_nextToken_176 : decode cX7_nextToken 176 = .ok (.putfield 25, 3) := by decide +kernel
theorem dX7_nextToken_179 : decode cX7_nextToken 179 = .ok (.aload_n 0, 1) := by decide +kernel
theorem dX7_nextToken_180 : decode cX7_nextToken 180 = .ok (.aload_n 0, 1) := by decide +kernel
theorem dX7_nextToken_181 : decode cX7_nextToken 181 = .ok (.invokevirtual 123, 3) := by decide +kernel
theorem dX7_nextToken_184 : decode cX7_nextToken 184 = .ok (.putfield 28, 3) := by decide +kernel
theorem dX7_nextToken_187 : decode cX7_nextToken 187 = .ok (.goto 8, 3) := by decide +kernel
theorem dX7_nextToken_190 : decode cX7_nextToken 190 = .ok (.aload_n 0, 1) := by decide +kernel
theorem dX7_nextToken_191 : decode cX7_nextToken 191 = .ok (.iconst 4, 1) := by decide +kernel
theorem dX7_nextToken_192 : decode cX7_nextToken 192 = .ok (.putfield 25, 3) := by decide +kernel
theorem dX7_nextToken_195 : decode cX7_nextToken 195 = .ok (.return_, 1) := by decide +kernel
theorem dX7_behindRun_0 : decode cX7_behindRun 0 = .ok (.iload_n 1, 1) := by decide +kernel
theorem dX7_behindRun_1 : decode cX7_behindRun 1 = .ok (.istore 4, 2) := by decide +kernel
theorem dX7_behindRun_3 : decode cX7_behindRun 3 = .ok (.iload 4, 2) := by decide +kernel
theorem dX7_behindRun_5 : decode cX7_behindRun 5 = .ok (.aload_n 0, 1) := by decide +kernel
theorem dX7_behindRun_6 : decode cX7_behindRun 6 = .ok (.getfield 9, 3) := by decide +kernel
theorem dX7_behindRun_9 : decode cX7_behindRun 9 = .ok (.if_icmp .ge 26, 3) := by decide +kernel
theorem dX7_behindRun_12 : decode cX7_behindRun 12 = .ok (.aload_n 0, 1) := by decide +kernel
theorem dX7_behindRun_13 : decode cX7_behindRun 13 = .ok (.iload 4, 2) := by decide +kernel
theorem dX7_behindRun_15 : decode cX7_behindRun 15 = .ok (.invokevirtual 117, 3) := by decide +kernel
theorem dX7_behindRun_18 : decode cX7_behindRun 18 = .ok (.iload_n 2, 1) := by decide +kernel
theorem dX7_behindRun_19 : decode cX7_behindRun 19 = .ok (.iload_n 3, 1) := by decide +kernel
theorem dX7_behindRun_20 : decode cX7_behindRun 20 = .ok (.invokestatic 43, 3) := by decide +kernel
theorem dX7_behindRun_23 : decode cX7_behindRun 23 = .ok (.ifCond .ne 6, 3) := by decide +kernel
theorem dX7_behindRun_26 : decode cX7_behindRun 26 = .ok (.iload 4, 2) := by decide +kernel
theorem dX7_behindRun_28 : decode cX7_behindRun 28 = .ok (.ireturn, 1) := by decide +kernel
theorem dX7_behindRun_29 : decode cX7_behindRun 29 = .ok (.iinc 4 1, 3) := by decide +kernel
theorem dX7_behindRun_32 : decode cX7_behindRun 32 = .ok (.goto (-29), 3) := by decide +kernel
theorem dX7_behindRun_35 : decode cX7_behindRun 35 = .ok (.aload_n 0, 1) := by decide +kernel
theorem dX7_behindRun_36 : decode cX7_behindRun 36 = .ok (.getfield 9, 3) := by decide +kernel
theorem dX7_behindRun_39 : decode cX7_behindRun 39 = .ok (.ireturn, 1) := by decide +kernel
theorem dX7_byteAt_0 : decode cX7_byteAt 0 = .ok (.iload_n 1, 1) := by decide +kernel
theorem dX7_byteAt_1 : decode cX7_byteAt 1 = .ok (.iconst 0, 1) := by decide +kernel
theorem dX7_byteAt_2 : decode cX7_byteAt 2 = .ok (.sipush 149, 3) := by decide +kernel
theorem dX7_byteAt_5 : decode cX7_byteAt 5 = .ok (.invokestatic 43, 3) := by decide +kernel
theorem dX7_byteAt_8 : decode cX7_byteAt 8 = .ok (.ifCond .eq 20, 3) := by decide +kernel
theorem dX7_byteAt_11 : decode cX7_byteAt 11 = .ok (.iload_n 1, 1) := by decide +kernel
theorem dX7_byteAt_12 : decode cX7_byteAt 12 = .ok (.aload_n 0, 1) := by decide +kernel
theorem dX7_byteAt_13 : decode cX7_byteAt 13 = .ok (.getfield 9, 3) := by decide +kernel
theorem dX7_byteAt_16 : decode cX7_byteAt 16 = .ok (.if_icmp .ge 12, 3) := by decide +kernel
theorem dX7_byteAt_19 : decode cX7_byteAt 19 = .ok (.aload_n 0, 1) := by decide +kernel
theorem dX7_byteAt_20 : decode cX7_byteAt 20 = .ok (.getfield 15, 3) := by decide +kernel
theorem dX7_byteAt_23 : decode cX7_byteAt 23 = .ok (.iload_n 1, 1) := by decide +kernel
theorem dX7_byteAt_24 : decode cX7_byteAt 24 = .ok (.iaload, 1) := by decide +kernel
theorem dX7_byteAt_25 : decode cX7_byteAt 25 = .ok (.goto 4, 3) := by decide +kernel
theorem dX7_byteAt_28 : decode cX7_byteAt 28 = .ok (.iconst (-1), 1) := by decide +kernel
theorem dX7_byteAt_29 : decode cX7_byteAt 29 = .ok (.ireturn, 1) := by decide +kernel
theorem dX7_numberRead_0 : decode cX7_numberRead 0 = .ok (.iconst 0, 1) := by decide +kernel
theorem dX7_numberRead_1 : decode cX7_numberRead 1 = .ok (.istore_n 1, 1) := by decide +kernel
theorem dX7_numberRead_2 : decode cX7_numberRead 2 = .ok (.aload_n 0, 1) := by decide +kernel
theorem dX7_numberRead_3 : decode cX7_numberRead 3 = .ok (.getfield 19, 3) := by decide +kernel
theorem dX7_numberRead_6 : decode cX7_numberRead 6 = .ok (.istore_n 2, 1) := by decide +kernel
theorem dX7_numberRead_7 : decode cX7_numberRead 7 = .ok (.iload_n 2, 1) := by decide +kernel
theorem dX7_numberRead_8 : decode cX7_numberRead 8 = .ok (.aload_n 0, 1) := by decide +kernel
theorem dX7_numberRead_9 : decode cX7_numberRead 9 = .ok (.getfield 22, 3) := by decide +kernel
theorem dX7_numberRead_12 : decode cX7_numberRead 12 = .ok (.if_icmp .ge 33, 3) := by decide +kernel
theorem dX7_numberRead_15 : decode cX7_numberRead 15 = .ok (.iload_n 2, 1) := by decide +kernel
theorem dX7_numberRead_16 : decode cX7_numberRead 16 = .ok (.aload_n 0, 1) := by decide +kernel
theorem dX7_numberRead_17 : decode cX7_numberRead 17 = .ok (.getfield 19, 3) := by decide +kernel
theorem dX7_numberRead_20 : decode cX7_numberRead 20 = .ok (.iconst 2, 1) := by decide +kernel
theorem dX7_numberRead_21 : decode cX7_numberRead 21 = .ok (.iadd, 1) := by decide +kernel
theorem dX7_numberRead_22 : decode cX7_numberRead 22 = .ok (.if_icmp .ge 23, 3) := by decide +kernel
theorem dX7_numberRead_25 : decode cX7_numberRead 25 = .ok (.bipush 10, 2) := by decide +kernel
theorem dX7_numberRead_27 : decode cX7_numberRead 27 = .ok (.iload_n 1, 1) := by decide +kernel
theorem dX7_numberRead_28 : decode cX7_numberRead 28 = .ok (.imul, 1) := by decide +kernel
theorem dX7_numberRead_29 : decode cX7_numberRead 29 = .ok (.aload_n 0, 1) := by decide +kernel
theorem dX7_numberRead_30 : decode cX7_numberRead 30 = .ok (.iload_n 2, 1) := by decide +kernel
theorem dX7_numberRead_31 : decode cX7_numberRead 31 = .ok (.invokevirtual 117, 3) := by decide +kernel
theorem dX7_numberRead_34 : decode cX7_numberRead 34 = .ok (.iadd, 1) := by decide +kernel
theorem dX7_numberRead_35 : decode cX7_numberRead 35 = .ok (.bipush 48, 2) := by decide +kernel
theorem dX7_numberRead_37 : decode cX7_numberRead 37 = .ok (.isub, 1) := by decide +kernel
theorem dX7_numberRead_38 : decode cX7_numberRead 38 = .ok (.istore_n 1, 1) := by decide +kernel
theorem dX7_numberRead_39 : decode cX7_numberRead 39 = .ok (.iinc 2 1, 3) := by decide +kernel
theorem dX7_numberRead_42 : decode cX7_numberRead 42 = .ok (.goto (-35), 3) := by decide +kernel
theorem dX7_numberRead_45 : decode cX7_numberRead 45 = .ok (.iload_n 1, 1) := by decide +kernel
theorem dX7_numberRead_46 : decode cX7_numberRead 46 = .ok (.ireturn, 1) := by decide +kernel
theorem dX7_wordRead_0 : decode cX7_wordRead 0 = .ok (.iconst 0, 1) := by decide +kernel
theorem dX7_wordRead_1 : decode cX7_wordRead 1 = .ok (.istore_n 1, 1) := by decide +kernel
theorem dX7_wordRead_2 : decode cX7_wordRead 2 = .ok (.iload_n 1, 1) := by decide +kernel
theorem dX7_wordRead_3 : decode cX7_wordRead 3 = .ok (.iconst 5, 1) := by decide +kernel
theorem dX7_wordRead_4 : decode cX7_wordRead 4 = .ok (.if_icmp .gt 22, 3) := by decide +kernel
theorem dX7_wordRead_7 : decode cX7_wordRead 7 = .ok (.aload_n 0, 1) := by decide +kernel
theorem dX7_wordRead_8 : decode cX7_wordRead 8 = .ok (.iload_n 1, 1) := by decide +kernel
theorem dX7_wordRead_9 : decode cX7_wordRead 9 = .ok (.invokestatic 126, 3) := by decide +kernel
theorem dX7_wordRead_12 : decode cX7_wordRead 12 = .ok (.invokevirtual 130, 3) := by decide +kernel
theorem dX7_wordRead_15 : decode cX7_wordRead 15 = .ok (.ifCond .eq 5, 3) := by decide +kernel
theorem dX7_wordRead_18 : decode cX7_wordRead 18 = .ok (.iload_n 1, 1) := by decide +kernel
theorem dX7_wordRead_19 : decode cX7_wordRead 19 = .ok (.ireturn, 1) := by decide +kernel
theorem dX7_wordRead_20 : decode cX7_wordRead 20 = .ok (.iinc 1 1, 3) := by decide +kernel
theorem dX7_wordRead_23 : decode cX7_wordRead 23 = .ok (.goto (-21), 3) := by decide +kernel
theorem dX7_wordRead_26 : decode cX7_wordRead 26 = .ok (.iconst (-1), 1) := by decide +kernel
theorem dX7_wordRead_27 : decode cX7_wordRead 27 = .ok (.ireturn, 1) := by decide +kernel
theorem dX7_reads_0 : decode cX7_reads 0 = .ok (.aload_n 1, 1) := by decide +kernel
theorem dX7_reads_1 : decode cX7_reads 1 = .ok (.invokevirtual 134, 3) := by decide +kernel
theorem dX7_reads_4 : decode cX7_reads 4 = .ok (.aload_n 0, 1) := by decide +kernel
theorem dX7_reads_5 : decode cX7_reads 5 = .ok (.getfield 22, 3) := by decide +kernel
theorem dX7_reads_8 : decode cX7_reads 8 = .ok (.aload_n 0, 1) := by decide +kernel
theorem dX7_reads_9 : decode cX7_reads 9 = .ok (.getfield 19, 3) := by decide +kernel
theorem dX7_reads_12 : decode cX7_reads 12 = .ok (.isub, 1) := by decide +kernel
theorem dX7_reads_13 : decode cX7_reads 13 = .ok (.if_icmp .eq 5, 3) := by decide +kernel
theorem dX7_reads_16 : decode cX7_reads 16 = .ok (.iconst 0, 1) := by decide +kernel
theorem dX7_reads_17 : decode cX7_reads 17 = .ok (.ireturn, 1) := by decide +kernel
theorem dX7_reads_18 : decode cX7_reads 18 = .ok (.iconst 0, 1) := by decide +kernel
theorem dX7_reads_19 : decode cX7_reads 19 = .ok (.istore_n 2, 1) := by decide +kernel
theorem dX7_reads_20 : decode cX7_reads 20 = .ok (.iload_n 2, 1) := by decide +kernel
theorem dX7_reads_21 : decode cX7_reads 21 = .ok (.aload_n 1, 1) := by decide +kernel
theorem dX7_reads_22 : decode cX7_reads 22 = .ok (.invokevirtual 134, 3) := by decide +kernel
theorem dX7_reads_25 : decode cX7_reads 25 = .ok (.if_icmp .ge 29, 3) := by decide +kernel
theorem dX7_reads_28 : decode cX7_reads 28 = .ok (.aload_n 0, 1) := by decide +kernel
theorem dX7_reads_29 : decode cX7_reads 29 = .ok (.aload_n 0, 1) := by decide +kernel
theorem dX7_reads_30 : decode cX7_reads 30 = .ok (.getfield 19, 3) := by decide +kernel
theorem dX7_reads_33 : decode cX7_reads 33 = .ok (.iload_n 2, 1) := by decide +kernel
theorem dX7_reads_34 : decode cX7_reads 34 = .ok (.iadd, 1) := by decide +kernel
theorem dX7_reads_35 : decode cX7_reads 35 = .ok (.invokevirtual 117, 3) := by decide +kernel
theorem dX7_reads_38 : decode cX7_reads 38 = .ok (.aload_n 1, 1) := by decide +kernel
theorem dX7_reads_39 : decode cX7_reads 39 = .ok (.iload_n 2, 1) := by decide +kernel
theorem dX7_reads_40 : decode cX7_reads 40 = .ok (.invokevirtual 139, 3) := by decide +kernel
theorem dX7_reads_43 : decode cX7_reads 43 = .ok (.if_icmp .eq 5, 3) := by decide +kernel
theorem dX7_reads_46 : decode cX7_reads 46 = .ok (.iconst 0, 1) := by decide +kernel
theorem dX7_reads_47 : decode cX7_reads 47 = .ok (.ireturn, 1) := by decide +kernel
theorem dX7_reads_48 : decode cX7_reads 48 = .ok (.iinc 2 1, 3) := by decide +kernel
theorem dX7_reads_51 : decode cX7_reads 51 = .ok (.goto (-31), 3) := by decide +kernel
theorem dX7_reads_54 : decode cX7_reads 54 = .ok (.iconst 1, 1) := by decide +kernel
theorem dX7_reads_55 : decode cX7_reads 55 = .ok (.ireturn, 1) := by decide +kernel
theorem dX7_nameOf_0 : decode cX7_nameOf 0 = .ok (.iload_n 0, 1) := by decide +kernel
theorem dX7_nameOf_1 : decode cX7_nameOf 1 = .ok (.tableswitch 50 0 4 #[35, 38, 41, 44, 47], 35) := by decide +kernel
theorem dX7_nameOf_36 : decode cX7_nameOf 36 = .ok (.ldc 143, 2) := by decide +kernel
theorem dX7_nameOf_38 : decode cX7_nameOf 38 = .ok (.areturn, 1) := by decide +kernel
theorem dX7_nameOf_39 : decode cX7_nameOf 39 = .ok (.ldc 145, 2) := by decide +kernel
theorem dX7_nameOf_41 : decode cX7_nameOf 41 = .ok (.areturn, 1) := by decide +kernel
theorem dX7_nameOf_42 : decode cX7_nameOf 42 = .ok (.ldc 147, 2) := by decide +kernel
theorem dX7_nameOf_44 : decode cX7_nameOf 44 = .ok (.areturn, 1) := by decide +kernel
theorem dX7_nameOf_45 : decode cX7_nameOf 45 = .ok (.ldc 149, 2) := by decide +kernel
theorem dX7_nameOf_47 : decode cX7_nameOf 47 = .ok (.areturn, 1) := by decide +kernel
theorem dX7_nameOf_48 : decode cX7_nameOf 48 = .ok (.ldc 151, 2) := by decide +kernel
theorem dX7_nameOf_50 : decode cX7_nameOf 50 = .ok (.areturn, 1) := by decide +kernel
theorem dX7_nameOf_51 : decode cX7_nameOf 51 = .ok (.ldc 153, 2) := by decide +kernel
theorem dX7_nameOf_53 : decode cX7_nameOf 53 = .ok (.areturn, 1) := by decide +kernel
theorem dX8_init_0 : decode cX8_init 0 = .ok (.aload_n 0, 1) := by decide +kernel
theorem dX8_init_1 : decode cX8_init 1 = .ok (.invokespecial 1, 3) := by decide +kernel
theorem dX8_init_4 : decode cX8_init 4 = .ok (.aload_n 0, 1) := by decide +kernel
theorem dX8_init_5 : decode cX8_init 5 = .ok (.new 7, 3) := by decide +kernel
theorem dX8_init_8 : decode cX8_init 8 = .ok (.dup, 1) := by decide +kernel
theorem dX8_init_9 : decode cX8_init 9 = .ok (.invokespecial 9, 3) := by decide +kernel
theorem dX8_init_12 : decode cX8_init 12 = .ok (.putfield 10, 3) := by decide +kernel
theorem dX8_init_15 : decode cX8_init 15 = .ok (.aload_n 0, 1) := by decide +kernel
theorem dX8_init_16 : decode cX8_init 16 = .ok (.new 7, 3) := by decide +kernel
theorem dX8_init_19 : decode cX8_init 19 = .ok (.dup, 1) := by decide +kernel
theorem dX8_init_20 : decode cX8_init 20 = .ok (.invokespecial 9, 3) := by decide +kernel
theorem dX8_init_23 : decode cX8_init 23 = .ok (.putfield 16, 3) := by decide +kernel
theorem dX8_init_26 : decode cX8_init 26 = .ok (.aload_n 0, 1) := by decide +kernel
theorem dX8_init_27 : decode cX8_init 27 = .ok (.iconst 2, 1) := by decide +kernel
theorem dX8_init_28 : decode cX8_init 28 = .ok (.anewarray 7, 3) := by decide +kernel
theorem dX8_init_31 : decode cX8_init 31 = .ok (.putfield 19, 3) := by decide +kernel
theorem dX8_init_34 : decode cX8_init 34 = .ok (.iconst 0, 1) := by decide +kernel
theorem dX8_init_35 : decode cX8_init 35 = .ok (.istore_n 1, 1) := by decide +kernel
theorem dX8_init_36 : decode cX8_init 36 = .ok (.iload_n 1, 1) := by decide +kernel
theorem dX8_init_37 : decode cX8_init 37 = .ok (.iconst 2, 1) := by decide +kernel
theorem dX8_init_38 : decode cX8_init 38 = .ok (.if_icmp .ge 22, 3) := by decide +kernel
theorem dX8_init_41 : decode cX8_init 41 = .ok (.aload_n 0, 1) := by decide +kernel
theorem dX8_init_42 : decode cX8_init 42 = .ok (.getfield 19, 3) := by decide +kernel
theorem dX8_init_45 : decode cX8_init 45 = .ok (.iload_n 1, 1) := by decide +kernel
theorem dX8_init_46 : decode cX8_init 46 = .ok (.new 7, 3) := by decide +kernel
theorem dX8_init_49 : decode cX8_init 49 = .ok (.dup, 1) := by decide +kernel
theorem dX8_init_50 : decode cX8_init 50 = .ok (.invokespecial 9, 3) := by decide +kernel
theorem dX8_init_53 : decode cX8_init 53 = .ok (.aastore, 1) := by decide +kernel
theorem dX8_init_54 : decode cX8_init 54 = .ok (.iinc 1 1, 3) := by decide +kernel
theorem dX8_init_57 : decode cX8_init 57 = .ok (.goto (-21), 3) := by decide +kernel
theorem dX8_init_60 : decode cX8_init 60 = .ok (.aload_n 0, 1) := by decide +kernel
theorem dX8_init_61 : decode cX8_init 61 = .ok (.iconst 2, 1) := by decide +kernel
theorem dX8_init_62 : decode cX8_init 62 = .ok (.newarray .boolean, 2) := by decide +kernel
theorem dX8_init_64 : decode cX8_init 64 = .ok (.putfield 23, 3) := by decide +kernel
theorem dX8_init_67 : decode cX8_init 67 = .ok (.aload_n 0, 1) := by decide +kernel
theorem dX8_init_68 : decode cX8_init 68 = .ok (.new 27, 3) := by decide +kernel
theorem dX8_init_71 : decode cX8_init 71 = .ok (.dup, 1) := by decide +kernel
theorem dX8_init_72 : decode cX8_init 72 = .ok (.invokespecial 29, 3) := by decide +kernel
theorem dX8_init_75 : decode cX8_init 75 = .ok (.putfield 30, 3) := by decide +kernel
theorem dX8_init_78 : decode cX8_init 78 = .ok (.aload_n 0, 1) := by decide +kernel
theorem dX8_init_79 : decode cX8_init 79 = .ok (.new 34, 3) := by decide +kernel
theorem dX8_init_82 : decode cX8_init 82 = .ok (.dup, 1) := by decide +kernel
theorem dX8_init_83 : decode cX8_init 83 = .ok (.invokespecial 36, 3) := by decide +kernel
theorem dX8_init_86 : decode cX8_init 86 = .ok (.putfield 37, 3) := by decide +kernel
theorem dX8_init_89 : decode cX8_init 89 = .ok (.aload_n 0, 1) := by decide +kernel
theorem dX8_init_90 : decode cX8_init 90 = .ok (.lconst 0, 1) := by decide +kernel
theorem dX8_init_91 : decode cX8_init 91 = .ok (.putfield 41, 3) := by decide +kernel
theorem dX8_init_94 : decode cX8_init 94 = .ok (.aload_n 0, 1) := by decide +kernel
theorem dX8_init_95 : decode cX8_init 95 = .ok (.lconst 1, 1) := by decide +kernel
theorem dX8_init_96 : decode cX8_init 96 = .ok (.putfield 45, 3) := by decide +kernel
theorem dX8_init_99 : decode cX8_init 99 = .ok (.aload_n 0, 1) := by decide +kernel
theorem dX8_init_100 : decode cX8_init 100 = .ok (.iconst 0, 1) := by decide +kernel
theorem dX8_init_101 : decode cX8_init 101 = .ok (.putfield 48, 3) := by decide +kernel
theorem dX8_init_104 : decode cX8_init 104 = .ok (.aload_n 0, 1) := by decide +kernel
theorem dX8_init_105 : decode cX8_init 105 = .ok (.iconst 0, 1) := by decide +kernel
theorem dX8_init_106 : decode cX8_init 106 = .ok (.putfield 52, 3) := by decide +kernel
theorem dX8_init_109 : decode cX8_init 109 = .ok (.aload_n 0, 1) := by decide +kernel
theorem dX8_init_110 : decode cX8_init 110 = .ok (.iconst 0, 1) := by decide +kernel
theorem dX8_init_111 : decode cX8_init 111 = .ok (.putfield 55, 3) := by decide +kernel
theorem dX8_init_114 : decode cX8_init 114 = .ok (.return_, 1) := by decide +kernel
theorem dX8_house_0 : decode cX8_house 0 = .ok (.aload_n 0, 1) := by decide +kernel
theorem dX8_house_1 : decode cX8_house 1 = .ok (.getfield 10, 3) := by decide +kernel
theorem dX8_house_4 : decode cX8_house 4 = .ok (.getfield 58, 3) := by decide +kernel
theorem dX8_house_7 : decode cX8_house 7 = .ok (.istore_n 1, 1) := by decide +kernel
theorem dX8_house_8 : decode cX8_house 8 = .ok (.aload_n 0, 1) := by decide +kernel
theorem dX8_house_9 : decode cX8_house 9 = .ok (.getfield 10, 3) := by decide +kernel
theorem dX8_house_12 : decode cX8_house 12 = .ok (.invokevirtual 61, 3) := by decide +kernel
theorem dX8_house_15 : decode cX8_house 15 = .ok (.iload_n 1, 1) := by decide +kernel
theorem dX8_house_16 : decode cX8_house 16 = .ok (.ireturn, 1) := by decide +kernel
theorem dX8_one_0 : decode cX8_one 0 = .ok (.iload_n 1, 1) := by decide +kernel
theorem dX8_one_1 : decode cX8_one 1 = .ok (.iconst 0, 1) := by decide +kernel
theorem dX8_one_2 : decode cX8_one 2 = .ok (.iconst 5, 1) := by decide +kernel
theorem dX8_one_3 : decode cX8_one 3 = .ok (.invokestatic 64, 3) := by decide +kernel
theorem dX8_one_6 : decode cX8_one 6 = .ok (.ifCond .eq 13, 3) := by decide +kernel
theorem dX8_one_9 : decode cX8_one 9 = .ok (.iload_n 2, 1) := by decide +kernel
theorem dX8_one_10 : decode cX8_one 10 = .ok (.iconst 1, 1) := by decide +kernel
theorem dX8_one_11 : decode cX8_one 11 = .ok (.bipush 12, 2) := by decide +kernel
theorem dX8_one_13 : decode cX8_one 13 = .ok (.invokestatic 64, 3) := by decide +kernel
theorem dX8_one_16 : decode cX8_one 16 = .ok (.ifCond .ne 10, 3) := by decide +kernel
theorem dX8_one_19 : decode cX8_one 19 = .ok (.aload_n 0, 1) := by decide +kernel
theorem dX8_one_20 : decode cX8_one 20 = .ok (.bipush (-2), 2) := by decide +kernel
theorem dX8_one_22 : decode cX8_one 22 = .ok (.invokevirtual 68, 3) := by decide +kernel
theorem dX8_one_25 : decode cX8_one 25 = .ok (.ireturn, 1) := by decide +kernel
theorem dX8_one_26 : decode cX8_one 26 = .ok (.aload_n 0, 1) := by decide +kernel
theorem dX8_one_27 : decode cX8_one 27 = .ok (.getfield 10, 3) := by decide +kernel
theorem dX8_one_30 : decode cX8_one 30 = .ok (.getfield 58, 3) := by decide +kernel
theorem dX8_one_33 : decode cX8_one 33 = .ok (.bipush 6, 2) := by decide +kernel
theorem dX8_one_35 : decode cX8_one 35 = .ok (.if_icmp .lt 10, 3) := by decide +kernel
theorem dX8_one_38 : decode cX8_one 38 = .ok (.aload_n 0, 1) := by decide +kernel
theorem dX8_one_39 : decode cX8_one 39 = .ok (.bipush (-4), 2) := by decide +kernel
theorem dX8_one_41 : decode cX8_one 41 = .ok (.invokevirtual 68, 3) := by decide +kernel
theorem dX8_one_44 : decode cX8_one 44 = .ok (.ireturn, 1) := by decide +kernel
theorem dX8_one_45 : decode cX8_one 45 = .ok (.aload_n 0, 1) := by decide +kernel
theorem dX8_one_46 : decode cX8_one 46 = .ok (.getfield 10, 3) := by decide +kernel
theorem dX8_one_49 : decode cX8_one 49 = .ok (.iload_n 1, 1) := by decide +kernel
theorem dX8_one_50 : decode cX8_one 50 = .ok (.iload_n 2, 1) := by decide +kernel
theorem dX8_one_51 : decode cX8_one 51 = .ok (.invokevirtual 72, 3) := by decide +kernel
theorem dX8_one_54 : decode cX8_one 54 = .ok (.aload_n 0, 1) := by decide +kernel
theorem dX8_one_55 : decode cX8_one 55 = .ok (.getfield 10, 3) := by decide +kernel
theorem dX8_one_58 : decode cX8_one 58 = .ok (.getfield 58, 3) := by decide +kernel
theorem dX8_one_61 : decode cX8_one 61 = .ok (.iconst 1, 1) := by decide +kernel
theorem dX8_one_62 : decode cX8_one 62 = .ok (.isub, 1) := by decide +kernel
theorem dX8_one_63 : decode cX8_one 63 = .ok (.ireturn, 1) := by decide +kernel
theorem dX8_type_0 : decode cX8_type 0 = .ok (.iload_n 1, 1) := by decide +kernel
theorem dX8_type_1 : decode cX8_type 1 = .ok (.iconst 0, 1) := by decide +kernel
theorem dX8_type_2 : decode cX8_type 2 = .ok (.bipush 127, 2) := by decide +kernel
theorem dX8_type_4 : decode cX8_type 4 = .ok (.invokestatic 64, 3) := by decide +kernel
theorem dX8_type_7 : decode cX8_type 7 = .ok (.ifCond .ne 10, 3) := by decide +kernel
theorem dX8_type_10 : decode cX8_type 10 = .ok (.aload_n 0, 1) := by decide +kernel
theorem dX8_type_11 : decode cX8_type 11 = .ok (.bipush (-2), 2) := by decide +kernel
theorem dX8_type_13 : decode cX8_type 13 = .ok (.invokevirtual 68, 3) := by decide +kernel
theorem dX8_type_16 : decode cX8_type 16 = .ok (.ireturn, 1) := by decide +kernel
theorem dX8_type_17 : decode cX8_type 17 = .ok (.aload_n 0, 1) := by decide +kernel
theorem dX8_type_18 : decode cX8_type 18 = .ok (.getfield 30, 3) := by decide +kernel
theorem dX8_type_21 : decode cX8_type 21 = .ok (.getfield 76, 3) := by decide +kernel
theorem dX8_type_24 : decode cX8_type 24 = .ok (.sipush 150, 3) := by decide +kernel
theorem dX8_type_27 : decode cX8_type 27 = .ok (.if_icmp .lt 10, 3) := by decide +kernel
theorem dX8_type_30 : decode cX8_type 30 = .ok (.aload_n 0, 1) := by decide +kernel
theorem dX8_type_31 : decode cX8_type 31 = .ok (.bipush (-4), 2) := by decide +kernel
theorem dX8_type_33 : decode cX8_type 33 = .ok (.invokevirtual 68, 3) := by decide +kernel
theorem dX8_type_36 : decode cX8_type 36 = .ok (.ireturn, 1) := by decide +kernel
theorem dX8_type_37 : decode cX8_type 37 = .ok (.aload_n 0, 1) := by decide +kernel
theorem dX8_type_38 : decode cX8_type 38 = .ok (.getfield 30, 3) := by decide +kernel
theorem dX8_type_41 : decode cX8_type 41 = .ok (.iload_n 1, 1) := by decide +kernel
theorem dX8_type_42 : decode cX8_type 42 = .ok (.invokevirtual 79, 3) := by decide +kernel
theorem dX8_type_45 : decode cX8_type 45 = .ok (.aload_n 0, 1) := by decide +kernel
theorem dX8_type_46 : decode cX8_type 46 = .ok (.getfield 30, 3) := by decide +kernel
theorem dX8_type_49 : decode cX8_type 49 = .ok (.getfield 76, 3) := by decide +kernel
theorem dX8_type_52 : decode cX8_type 52 = .ok (.ireturn, 1) := by decide +kernel
theorem dX8_clear_0 : decode cX8_clear 0 = .ok (.aload_n 0, 1) := by decide +kernel
theorem dX8_clear_1 : decode cX8_clear 1 = .ok (.getfield 30, 3) := by decide +kernel
theorem dX8_clear_4 : decode cX8_clear 4 = .ok (.getfield 76, 3) := by decide +kernel
theorem dX8_clear_7 : decode cX8_clear 7 = .ok (.istore_n 1, 1) := by decide +kernel
theorem dX8_clear_8 : decode cX8_clear 8 = .ok (.aload_n 0, 1) := by decide +kernel
theorem dX8_clear_9 : decode cX8_clear 9 = .ok (.getfield 30, 3) := by decide +kernel
theorem dX8_clear_12 : decode cX8_clear 12 = .ok (.iconst 0, 1) := by decide +kernel
theorem dX8_clear_13 : decode cX8_clear 13 = .ok (.putfield 76, 3) := by decide +kernel
theorem dX8_clear_16 : decode cX8_clear 16 = .ok (.iload_n 1, 1) := by decide +kernel
theorem dX8_clear_17 : decode cX8_clear 17 = .ok (.ireturn, 1) := by decide +kernel
theorem dX8_read_0 : decode cX8_read 0 = .ok (.aload_n 0, 1) := by decide +kernel
theorem dX8_read_1 : decode cX8_read 1 = .ok (.getfield 30, 3) := by decide +kernel
theorem dX8_read_4 : decode cX8_read 4 = .ok (.aload_n 0, 1) := by decide +kernel
theorem dX8_read_5 : decode cX8_read 5 = .ok (.getfield 16, 3) := by decide +kernel
theorem dX8_read_8 : decode cX8_read 8 = .ok (.invokevirtual 83, 3) := by decide +kernel
theorem dX8_read_11 : decode cX8_read 11 = .ok (.istore_n 1, 1) := by decide +kernel
theorem dX8_read_12 : decode cX8_read 12 = .ok (.iload_n 1, 1) := by decide +kernel
theorem dX8_read_13 : decode cX8_read 13 = .ok (.ifCond .le 14, 3) := by decide +kernel
theorem dX8_read_16 : decode cX8_read 16 = .ok (.aload_n 0, 1) := by decide +kernel
theorem dX8_read_17 : decode cX8_read 17 = .ok (.getfield 10, 3) := by decide +kernel
theorem dX8_read_20 : decode cX8_read 20 = .ok (.aload_n 0, 1) := by decide +kernel
theorem dX8_read_21 : decode cX8_read 21 = .ok (.getfield 16, 3) := by decide +kernel
theorem dX8_read_24 : decode cX8_read 24 = .ok (.invokevirtual 87, 3) := by decide +kernel
theorem dX8_read_27 : decode cX8_read 27 = .ok (.iload_n 1, 1) := by decide +kernel
theorem dX8_read_28 : decode cX8_read 28 = .ok (.ireturn, 1) := by decide +kernel
theorem dX8_meets_0 : decode cX8_meets 0 = .ok (.aload_n 0, 1) := by decide +kernel
theorem dX8_meets_1 : decode cX8_meets 1 = .ok (.getfield 10, 3) := by decide +kernel
theorem dX8_meets_4 : decode cX8_meets 4 = .ok (.iload_n 1, 1) := by decide +kernel
theorem dX8_meets_5 : decode cX8_meets 5 = .ok (.invokevirtual 91, 3) := by decide +kernel
theorem dX8_meets_8 : decode cX8_meets 8 = .ok (.ifCond .eq 10, 3) := by decide +kernel
theorem dX8_meets_11 : decode cX8_meets 11 = .ok (.iload_n 2, 1) := by decide +kernel
theorem dX8_meets_12 : decode cX8_meets 12 = .ok (.invokestatic 95, 3) := by decide +kernel
theorem dX8_meets_15 : decode cX8_meets 15 = .ok (.ifCond .ne 10, 3) := by decide +kernel
theorem dX8_meets_18 : decode cX8_meets 18 = .ok (.aload_n 0, 1) := by decide +kernel
theorem dX8_meets_19 : decode cX8_meets 19 = .ok (.bipush (-2), 2) := by decide +kernel
theorem dX8_meets_21 : decode cX8_meets 21 = .ok (.invokevirtual 68, 3) := by decide +kernel
theorem dX8_meets_24 : decode cX8_meets 24 = .ok (.ireturn, 1) := by decide +kernel
theorem dX8_meets_25 : decode cX8_meets 25 = .ok (.aload_n 0, 1) := by decide +kernel
theorem dX8_meets_26 : decode cX8_meets 26 = .ok (.getfield 10, 3) := by decide +kernel
theorem dX8_meets_29 : decode cX8_meets 29 = .ok (.getfield 98, 3) := by decide +kernel
theorem dX8_meets_32 : decode cX8_meets 32 = .ok (.iload_n 1, 1) := by decide +kernel
theorem dX8_meets_33 : decode cX8_meets 33 = .ok (.iload_n 2, 1) := by decide +kernel
theorem dX8_meets_34 : decode cX8_meets 34 = .ok (.invokevirtual 102, 3) := by decide +kernel
theorem dX8_meets_37 : decode cX8_meets 37 = .ok (.ifCond .ne 19, 3) := by decide +kernel
theorem dX8_meets_40 : decode cX8_meets 40 = .ok (.aload_n 0, 1) := by decide +kernel
theorem dX8_meets_41 : decode cX8_meets 41 = .ok (.getfield 10, 3) := by decide +kernel
theorem dX8_meets_44 : decode cX8_meets 44 = .ok (.getfield 98, 3) := by decide +kernel
theorem dX8_meets_47 : decode cX8_meets 47 = .ok (.getfield 108, 3) := by decide +kernel
theorem dX8_meets_50 : decode cX8_meets 50 = .ok (.sipush 9999, 3) := by decide +kernel
theorem dX8_meets_53 : decode cX8_meets 53 = .ok (.if_icmp .lt 10, 3) := by decide +kernel
theorem dX8_meets_56 : decode cX8_meets 56 = .ok (.aload_n 0, 1) := by decide +kernel
theorem dX8_meets_57 : decode cX8_meets 57 = .ok (.bipush (-3), 2) := by decide +kernel
theorem dX8_meets_59 : decode cX8_meets 59 = .ok (.invokevirtual 68, 3) := by decide +kernel
theorem dX8_meets_62 : decode cX8_meets 62 = .ok (.ireturn, 1) := by decide +kernel
theorem dX8_meets_63 : decode cX8_meets 63 = .ok (.aload_n 0, 1) := by decide +kernel
theorem dX8_meets_64 : decode cX8_meets 64 = .ok (.getfield 10, 3) := by decide +kernel
theorem dX8_meets_67 : decode cX8_meets 67 = .ok (.invokevirtual 111, 3) := by decide +kernel
theorem dX8_meets_70 : decode cX8_meets 70 = .ok (.aload_n 0, 1) := by decide +kernel
theorem dX8_meets_71 : decode cX8_meets 71 = .ok (.getfield 10, 3) := by decide +kernel
theorem dX8_meets_74 : decode cX8_meets 74 = .ok (.iload_n 1, 1) := by decide +kernel
theorem dX8_meets_75 : decode cX8_meets 75 = .ok (.iload_n 2, 1) := by decide +kernel
theorem dX8_meets_76 : decode cX8_meets 76 = .ok (.invokevirtual 114, 3) := by decide +kernel
theorem dX8_meets_79 : decode cX8_meets 79 = .ok (.aload_n 0, 1) := by decide +kernel
theorem dX8_meets_80 : decode cX8_meets 80 = .ok (.getfield 10, 3) := by decide +kernel
theorem dX8_meets_83 : decode cX8_meets 83 = .ok (.getfield 98, 3) := by decide +kernel
theorem dX8_meets_86 : decode cX8_meets 86 = .ok (.iload_n 1, 1) := by decide +kernel
theorem dX8_meets_87 : decode cX8_meets 87 = .ok (.iload_n 2, 1) := by decide +kernel
theorem dX8_meets_88 : decode cX8_meets 88 = .ok (.invokevirtual 102, 3) := by decide +kernel
theorem dX8_meets_91 : decode cX8_meets 91 = .ok (.ifCond .eq 7, 3) := by decide +kernel
theorem dX8_meets_94 : decode cX8_meets 94 = .ok (.iconst 1, 1) := by decide +kernel
theorem dX8_meets_95 : decode cX8_meets 95 = .ok (.goto 4, 3) := by decide +kernel
theorem dX8_meets_98 : decode cX8_meets 98 = .ok (.iconst 0, 1) := by decide +kernel
theorem dX8_meets_99 : decode cX8_meets 99 = .ok (.ireturn, 1) := by decide +kernel
theorem dX8_goes_0 : decode cX8_goes 0 = .ok (.aload_n 0, 1) := by decide +kernel
theorem dX8_goes_1 : decode cX8_goes 1 = .ok (.getfield 10, 3) := by decide +kernel
theorem dX8_goes_4 : decode cX8_goes 4 = .ok (.iload_n 1, 1) := by decide +kernel
theorem dX8_goes_5 : decode cX8_goes 5 = .ok (.invokevirtual 91, 3) := by decide +kernel
theorem dX8_goes_8 : decode cX8_goes 8 = .ok (.ifCond .eq 12, 3) := by decide +kernel
theorem dX8_goes_11 : decode cX8_goes 11 = .ok (.iload_n 2, 1) := by decide +kernel
theorem dX8_goes_12 : decode cX8_goes 12 = .ok (.iconst 0, 1) := by decide +kernel
theorem dX8_goes_13 : decode cX8_goes 13 = .ok (.iconst 1, 1) := by decide +kernel
theorem dX8_goes_14 : decode cX8_goes 14 = .ok (.invokestatic 64, 3) := by decide +kernel
theorem dX8_goes_17 : decode cX8_goes 17 = .ok (.ifCond .ne 8, 3) := by decide +kernel
theorem dX8_goes_20 : decode cX8_goes 20 = .ok (.aload_n 0, 1) := by decide +kernel
theorem dX8_goes_21 : decode cX8_goes 21 = .ok (.invokevirtual 117, 3) := by decide +kernel
theorem dX8_goes_24 : decode cX8_goes 24 = .ok (.ireturn, 1) := by decide +kernel
theorem dX8_goes_25 : decode cX8_goes 25 = .ok (.iload_n 2, 1) := by decide +kernel
theorem dX8_goes_26 : decode cX8_goes 26 = .ok (.iconst 1, 1) := by decide +kernel
theorem dX8_goes_27 : decode cX8_goes 27 = .ok (.if_icmp .ne 8, 3) := by decide +kernel
theorem dX8_goes_30 : decode cX8_goes 30 = .ok (.bipush 8, 2) := by decide +kernel
theorem dX8_goes_32 : decode cX8_goes 32 = .ok (.goto 4, 3) := by decide +kernel
theorem dX8_goes_35 : decode cX8_goes 35 = .ok (.iconst (-1), 1) := by decide +kernel
theorem dX8_goes_36 : decode cX8_goes 36 = .ok (.istore_n 3, 1) := by decide +kernel
theorem dX8_goes_37 : decode cX8_goes 37 = .ok (.aload_n 0, 1) := by decide +kernel
theorem dX8_goes_38 : decode cX8_goes 38 = .ok (.getfield 10, 3) := by decide +kernel
theorem dX8_goes_41 : decode cX8_goes 41 = .ok (.getfield 98, 3) := by decide +kernel
theorem dX8_goes_44 : decode cX8_goes 44 = .ok (.getfield 121, 3) := by decide +kernel
theorem dX8_goes_47 : decode cX8_goes 47 = .ok (.iload_n 1, 1) := by decide +kernel
theorem dX8_goes_48 : decode cX8_goes 48 = .ok (.iaload, 1) := by decide +kernel
theorem dX8_goes_49 : decode cX8_goes 49 = .ok (.iload_n 3, 1) := by decide +kernel
theorem dX8_goes_50 : decode cX8_goes 50 = .ok (.if_icmp .eq 19, 3) := by decide +kernel
theorem dX8_goes_53 : decode cX8_goes 53 = .ok (.aload_n 0, 1) := by decide +kernel
theorem dX8_goes_54 : decode cX8_goes 54 = .ok (.getfield 10, 3) := by decide +kernel
theorem dX8_goes_57 : decode cX8_goes 57 = .ok (.getfield 98, 3) := by decide +kernel
theorem dX8_goes_60 : decode cX8_goes 60 = .ok (.getfield 108, 3) := by decide +kernel
theorem dX8_goes_63 : decode cX8_goes 63 = .ok (.sipush 9999, 3) := by decide +kernel
theorem dX8_goes_66 : decode cX8_goes 66 = .ok (.if_icmp .lt 10, 3) := by decide +kernel
theorem dX8_goes_69 : decode cX8_goes 69 = .ok (.aload_n 0, 1) := by decide +kernel
theorem dX8_goes_70 : decode cX8_goes 70 = .ok (.bipush (-3), 2) := by decide +kernel
theorem dX8_goes_72 : decode cX8_goes 72 = .ok (.invokevirtual 68, 3) := by decide +kernel
theorem dX8_goes_75 : decode cX8_goes 75 = .ok (.ireturn, 1) := by decide +kernel
theorem dX8_goes_76 : decode cX8_goes 76 = .ok (.aload_n 0, 1) := by decide +kernel
theorem dX8_goes_77 : decode cX8_goes 77 = .ok (.getfield 10, 3) := by decide +kernel
theorem dX8_goes_80 : decode cX8_goes 80 = .ok (.invokevirtual 111, 3) := by decide +kernel
theorem dX8_goes_83 : decode cX8_goes 83 = .ok (.aload_n 0, 1) := by decide +kernel
theorem dX8_goes_84 : decode cX8_goes 84 = .ok (.getfield 10, 3) := by decide +kernel
theorem dX8_goes_87 : decode cX8_goes 87 = .ok (.getfield 98, 3) := by decide +kernel
theorem dX8_goes_90 : decode cX8_goes 90 = .ok (.iload_n 1, 1) := by decide +kernel
theorem dX8_goes_91 : decode cX8_goes 91 = .ok (.iload_n 2, 1) := by decide +kernel
theorem dX8_goes_92 : decode cX8_goes 92 = .ok (.invokevirtual 125, 3) := by decide +kernel
theorem dX8_goes_95 : decode cX8_goes 95 = .ok (.aload_n 0, 1) := by decide +kernel
theorem dX8_goes_96 : decode cX8_goes 96 = .ok (.getfield 10, 3) := by decide +kernel
theorem dX8_goes_99 : decode cX8_goes 99 = .ok (.getfield 98, 3) := by decide +kernel
theorem dX8_goes_102 : decode cX8_goes 102 = .ok (.invokevirtual 128, 3) := by decide +kernel
theorem dX8_goes_105 : decode cX8_goes 105 = .ok (.aload_n 0, 1) := by decide +kernel
theorem dX8_goes_106 : decode cX8_goes 106 = .ok (.getfield 10, 3) := by decide +kernel
theorem dX8_goes_109 : decode cX8_goes 109 = .ok (.getfield 98, 3) := by decide +kernel
theorem dX8_goes_112 : decode cX8_goes 112 = .ok (.getfield 121, 3) := by decide +kernel
theorem dX8_goes_115 : decode cX8_goes 115 = .ok (.iload_n 1, 1) := by decide +kernel
theorem dX8_goes_116 : decode cX8_goes 116 = .ok (.iaload, 1) := by decide +kernel
theorem dX8_goes_117 : decode cX8_goes 117 = .ok (.ireturn, 1) := by decide +kernel
theorem dX8_waits_0 : decode cX8_waits 0 = .ok (.iload_n 1, 1) := by decide +kernel
theorem dX8_waits_1 : decode cX8_waits 1 = .ok (.iconst 1, 1) := by decide +kernel
theorem dX8_waits_2 : decode cX8_waits 2 = .ok (.bipush 60, 2) := by decide +kernel
theorem dX8_waits_4 : decode cX8_waits 4 = .ok (.invokestatic 64, 3) := by decide +kernel
theorem dX8_waits_7 : decode cX8_waits 7 = .ok (.ifCond .ne 10, 3) := by decide +kernel
theorem dX8_waits_10 : decode cX8_waits 10 = .ok (.aload_n 0, 1) := by decide +kernel
theorem dX8_waits_11 : decode cX8_waits 11 = .ok (.bipush (-2), 2) := by decide +kernel
theorem dX8_waits_13 : decode cX8_waits 13 = .ok (.invokevirtual 68, 3) := by decide +kernel
theorem dX8_waits_16 : decode cX8_waits 16 = .ok (.ireturn, 1) := by decide +kernel
theorem dX8_waits_17 : decode cX8_waits 17 = .ok (.aload_n 0, 1) := by decide +kernel
theorem dX8_waits_18 : decode cX8_waits 18 = .ok (.getfield 10, 3) := by decide +kernel
theorem dX8_waits_21 : decode cX8_waits 21 = .ok (.invokevirtual 111, 3) := by decide +kernel
theorem dX8_waits_24 : decode cX8_waits 24 = .ok (.aload_n 0, 1) := by decide +kernel
theorem dX8_waits_25 : decode cX8_waits 25 = .ok (.getfield 10, 3) := by decide +kernel
theorem dX8_waits_28 : decode cX8_waits 28 = .ok (.getfield 98, 3) := by decide +kernel
theorem dX8_waits_31 : decode cX8_waits 31 = .ok (.iload_n 1, 1) := by decide +kernel
theorem dX8_waits_32 : decode cX8_waits 32 = .ok (.invokevirtual 131, 3) := by decide +kernel
theorem dX8_waits_35 : decode cX8_waits 35 = .ok (.aload_n 0, 1) := by decide +kernel
theorem dX8_waits_36 : decode cX8_waits 36 = .ok (.getfield 10, 3) := by decide +kernel
theorem dX8_waits_39 : decode cX8_waits 39 = .ok (.getfield 98, 3) := by decide +kernel
theorem dX8_waits_42 : decode cX8_waits 42 = .ok (.invokevirtual 134, 3) := by decide +kernel
theorem dX8_waits_45 : decode cX8_waits 45 = .ok (.ireturn, 1) := by decide +kernel
theorem dX8_carpet_0 : decode cX8_carpet 0 = .ok (.iload_n 1, 1) := by decide +kernel
theorem dX8_carpet_1 : decode cX8_carpet 1 = .ok (.iconst 0, 1) := by decide +kernel
theorem dX8_carpet_2 : decode cX8_carpet 2 = .ok (.bipush 6, 2) := by decide +kernel
theorem dX8_carpet_4 : decode cX8_carpet 4 = .ok (.invokestatic 64, 3) := by decide +kernel
theorem dX8_carpet_7 : decode cX8_carpet 7 = .ok (.ifCond .eq 12, 3) := by decide +kernel
theorem dX8_carpet_10 : decode cX8_carpet 10 = .ok (.iload_n 2, 1) := by decide +kernel
theorem dX8_carpet_11 : decode cX8_carpet 11 = .ok (.iconst 0, 1) := by decide +kernel
theorem dX8_carpet_12 : decode cX8_carpet 12 = .ok (.iconst 1, 1) := by decide +kernel
theorem dX8_carpet_13 : decode cX8_carpet 13 = .ok (.invokestatic 64, 3) := by decide +kernel
theorem dX8_carpet_16 : decode cX8_carpet 16 = .ok (.ifCond .ne 10, 3) := by decide +kernel
theorem dX8_carpet_19 : decode cX8_carpet 19 = .ok (.aload_n 0, 1) := by decide +kernel
theorem dX8_carpet_20 : decode cX8_carpet 20 = .ok (.bipush (-2), 2) := by decide +kernel
theorem dX8_carpet_22 : decode cX8_carpet 22 = .ok (.invokevirtual 68, 3) := by decide +kernel
theorem dX8_carpet_25 : decode cX8_carpet 25 = .ok (.ireturn, 1) := by decide +kernel
theorem dX8_carpet_26 : decode cX8_carpet 26 = .ok (.aload_n 0, 1) := by decide +kernel
theorem dX8_carpet_27 : decode cX8_carpet 27 = .ok (.getfield 10, 3) := by decide +kernel
theorem dX8_carpet_30 : decode cX8_carpet 30 = .ok (.getfield 98, 3) := by decide +kernel
theorem dX8_carpet_33 : decode cX8_carpet 33 = .ok (.getfield 137, 3) := by decide +kernel
theorem dX8_carpet_36 : decode cX8_carpet 36 = .ok (.iload_n 1, 1) := by decide +kernel
theorem dX8_carpet_37 : decode cX8_carpet 37 = .ok (.ishr, 1) := by decide +kernel
theorem dX8_carpet_38 : decode cX8_carpet 38 = .ok (.iconst 1, 1) := by decide +kernel
theorem dX8_carpet_39 : decode cX8_carpet 39 = .ok (.iand, 1) := by decide +kernel
theorem dX8_carpet_40 : decode cX8_carpet 40 = .ok (.istore_n 3, 1) := by decide +kernel
theorem dX8_carpet_41 : decode cX8_carpet 41 = .ok (.iload_n 3, 1) := by decide +kernel
theorem dX8_carpet_42 : decode cX8_carpet 42 = .ok (.iload_n 2, 1) := by decide +kernel
theorem dX8_carpet_43 : decode cX8_carpet 43 = .ok (.if_icmp .ne 10, 3) := by decide +kernel
theorem dX8_carpet_46 : decode cX8_carpet 46 = .ok (.aload_n 0, 1) := by decide +kernel
theorem dX8_carpet_47 : decode cX8_carpet 47 = .ok (.bipush (-3), 2) := by decide +kernel
theorem dX8_carpet_49 : decode cX8_carpet 49 = .ok (.invokevirtual 68, 3) := by decide +kernel
theorem dX8_carpet_52 : decode cX8_carpet 52 = .ok (.ireturn, 1) := by decide +kernel
theorem dX8_carpet_53 : decode cX8_carpet 53 = .ok (.aload_n 0, 1) := by decide +kernel
theorem dX8_carpet_54 : decode cX8_carpet 54 = .ok (.getfield 10, 3) := by decide +kernel
theorem dX8_carpet_57 : decode cX8_carpet 57 = .ok (.invokevirtual 111, 3) := by decide +kernel
theorem dX8_carpet_60 : decode cX8_carpet 60 = .ok (.aload_n 0, 1) := by decide +kernel
theorem dX8_carpet_61 : decode cX8_carpet 61 = .ok (.getfield 10, 3) := by decide +kernel
theorem dX8_carpet_64 : decode cX8_carpet 64 = .ok (.getfield 98, 3) := by decide +kernel
theorem dX8_carpet_67 : decode cX8_carpet 67 = .ok (.dup, 1) := by decide +kernel
theorem dX8_carpet_68 : decode cX8_carpet 68 = .ok (.getfield 137, 3) := by decide +kernel
theorem dX8_carpet_71 : decode cX8_carpet 71 = .ok (.iconst 1, 1) := by decide +kernel
theorem dX8_carpet_72 : decode cX8_carpet 72 = .ok (.iload_n 1, 1) := by decide +kernel
theorem dX8_carpet_73 : decode cX8_carpet 73 = .ok (.ishl, 1) := by decide +kernel
theorem dX8_carpet_74 : decode cX8_carpet 74 = .ok (.ixor, 1) := by decide +kernel
theorem dX8_carpet_75 : decode cX8_carpet 75 = .ok (.putfield 137, 3) := by decide +kernel
theorem dX8_carpet_78 : decode cX8_carpet 78 = .ok (.iload_n 3, 1) := by decide +kernel
theorem dX8_carpet_79 : decode cX8_carpet 79 = .ok (.ireturn, 1) := by decide +kernel
theorem dX8_step_0 : decode cX8_step 0 = .ok (.iload_n 1, 1) := by decide +kernel
theorem dX8_step_1 : decode cX8_step 1 = .ok (.invokestatic 95, 3) := by decide +kernel
theorem dX8_step_4 : decode cX8_step 4 = .ok (.ifCond .eq 12, 3) := by decide +kernel
theorem dX8_step_7 : decode cX8_step 7 = .ok (.iload_n 2, 1) := by decide +kernel
theorem dX8_step_8 : decode cX8_step 8 = .ok (.iconst 0, 1) := by decide +kernel
theorem dX8_step_9 : decode cX8_step 9 = .ok (.iconst 5, 1) := by decide +kernel
theorem dX8_step_10 : decode cX8_step 10 = .ok (.invokestatic 64, 3) := by decide +kernel
theorem dX8_step_13 : decode cX8_step 13 = .ok (.ifCond .ne 10, 3) := by decide +kernel
theorem dX8_step_16 : decode cX8_step 16 = .ok (.aload_n 0, 1) := by decide +kernel
theorem dX8_step_17 : decode cX8_step 17 = .ok (.bipush (-2), 2) := by decide +kernel
theorem dX8_step_19 : decode cX8_step 19 = .ok (.invokevirtual 68, 3) := by decide +kernel
theorem dX8_step_22 : decode cX8_step 22 = .ok (.ireturn, 1) := by decide +kernel
theorem dX8_step_23 : decode cX8_step 23 = .ok (.aload_n 0, 1) := by decide +kernel
theorem dX8_step_24 : decode cX8_step 24 = .ok (.getfield 10, 3) := by decide +kernel
theorem dX8_step_27 : decode cX8_step 27 = .ok (.getfield 98, 3) := by decide +kernel
theorem dX8_step_30 : decode cX8_step 30 = .ok (.iload_n 1, 1) := by decide +kernel
theorem dX8_step_31 : decode cX8_step 31 = .ok (.invokevirtual 140, 3) := by decide +kernel
theorem dX8_step_34 : decode cX8_step 34 = .ok (.invokestatic 143, 3) := by decide +kernel
theorem dX8_step_37 : decode cX8_step 37 = .ok (.istore_n 3, 1) := by decide +kernel
theorem dX8_step_38 : decode cX8_step 38 = .ok (.aload_n 0, 1) := by decide +kernel
theorem dX8_step_39 : decode cX8_step 39 = .ok (.getfield 10, 3) := by decide +kernel
theorem dX8_step_42 : decode cX8_step 42 = .ok (.invokevirtual 111, 3) := by decide +kernel
theorem dX8_step_45 : decode cX8_step 45 = .ok (.aload_n 0, 1) := by decide +kernel
theorem dX8_step_46 : decode cX8_step 46 = .ok (.getfield 10, 3) := by decide +kernel
theorem dX8_step_49 : decode cX8_step 49 = .ok (.getfield 98, 3) := by decide +kernel
theorem dX8_step_52 : decode cX8_step 52 = .ok (.iload_n 1, 1) := by decide +kernel
theorem dX8_step_53 : decode cX8_step 53 = .ok (.iload_n 2, 1) := by decide +kernel
theorem dX8_step_54 : decode cX8_step 54 = .ok (.invokevirtual 148, 3) := by decide +kernel
theorem dX8_step_57 : decode cX8_step 57 = .ok (.iload_n 3, 1) := by decide +kernel
theorem dX8_step_58 : decode cX8_step 58 = .ok (.ireturn, 1) := by decide +kernel
theorem dX8_undo_0 : decode cX8_undo 0 = .ok (.aload_n 0, 1) := by decide +kernel
theorem dX8_undo_1 : decode cX8_undo 1 = .ok (.getfield 10, 3) := by decide +kernel
theorem dX8_undo_4 : decode cX8_undo 4 = .ok (.getfield 151, 3) := by decide +kernel
theorem dX8_undo_7 : decode cX8_undo 7 = .ok (.ifCond .ne 10, 3) := by decide +kernel
theorem dX8_undo_10 : decode cX8_undo 10 = .ok (.aload_n 0, 1) := by decide +kernel
theorem dX8_undo_11 : decode cX8_undo 11 = .ok (.bipush (-3), 2) := by decide +kernel
theorem dX8_undo_13 : decode cX8_undo 13 = .ok (.invokevirtual 68, 3) := by decide +kernel
theorem dX8_undo_16 : decode cX8_undo 16 = .ok (.ireturn, 1) := by decide +kernel
theorem dX8_undo_17 : decode cX8_undo 17 = .ok (.aload_n 0, 1) := by decide +kernel
theorem dX8_undo_18 : decode cX8_undo 18 = .ok (.getfield 10, 3) := by decide +kernel
theorem dX8_undo_21 : decode cX8_undo 21 = .ok (.invokevirtual 154, 3) := by decide +kernel
theorem dX8_undo_24 : decode cX8_undo 24 = .ok (.aload_n 0, 1) := by decide +kernel
theorem dX8_undo_25 : decode cX8_undo 25 = .ok (.getfield 10, 3) := by decide +kernel
theorem dX8_undo_28 : decode cX8_undo 28 = .ok (.getfield 98, 3) := by decide +kernel
theorem dX8_undo_31 : decode cX8_undo 31 = .ok (.getfield 108, 3) := by decide +kernel
theorem dX8_undo_34 : decode cX8_undo 34 = .ok (.ireturn, 1) := by decide +kernel
theorem dX8_of_0 : decode cX8_of 0 = .ok (.aload_n 0, 1) := by decide +kernel
theorem dX8_of_1 : decode cX8_of 1 = .ok (.getfield 10, 3) := by decide +kernel
theorem dX8_of_4 : decode cX8_of 4 = .ok (.iload_n 1, 1) := by decide +kernel
theorem dX8_of_5 : decode cX8_of 5 = .ok (.invokevirtual 91, 3) := by decide +kernel
theorem dX8_of_8 : decode cX8_of 8 = .ok (.ifCond .ne 8, 3) := by decide +kernel
theorem dX8_of_11 : decode cX8_of 11 = .ok (.aload_n 0, 1) := by decide +kernel
theorem dX8_of_12 : decode cX8_of 12 = .ok (.invokevirtual 117, 3) := by decide +kernel
theorem dX8_of_15 : decode cX8_of 15 = .ok (.ireturn, 1) := by decide +kernel
theorem dX8_of_16 : decode cX8_of 16 = .ok (.iload_n 2, 1) := by decide +kernel
theorem dX8_of_17 : decode cX8_of 17 = .ok (.tableswitch 77 0 3 #[31, 41, 51, 64], 31) := by decide +kernel
theorem dX8_of_48 : decode cX8_of 48 = .ok (.aload_n 0, 1) := by decide +kernel
theorem dX8_of_49 : decode cX8_of 49 = .ok (.getfield 10, 3) := by decide +kernel
theorem dX8_of_52 : decode cX8_of 52 = .ok (.getfield 157, 3) := by decide +kernel
theorem dX8_of_55 : decode cX8_of 55 = .ok (.iload_n 1, 1) := by decide +kernel
theorem dX8_of_56 : decode cX8_of 56 = .ok (.iaload, 1) := by decide +kernel
theorem dX8_of_57 : decode cX8_of 57 = .ok (.ireturn, 1) := by decide +kernel
theorem dX8_of_58 : decode cX8_of 58 = .ok (.aload_n 0, 1) := by decide +kernel
theorem dX8_of_59 : decode cX8_of 59 = .ok (.getfield 10, 3) := by decide +kernel
theorem dX8_of_62 : decode cX8_of 62 = .ok (.getfield 160, 3) := by decide +kernel
theorem dX8_of_65 : decode cX8_of 65 = .ok (.iload_n 1, 1) := by decide +kernel
theorem dX8_of_66 : decode cX8_of 66 = .ok (.iaload, 1) := by decide +kernel
theorem dX8_of_67 : decode cX8_of 67 = .ok (.ireturn, 1) := by decide +kernel
theorem dX8_of_68 : decode cX8_of 68 = .ok (.aload_n 0, 1) := by decide +kernel
theorem dX8_of_69 : decode cX8_of 69 = .ok (.getfield 10, 3) := by decide +kernel
theorem dX8_of_72 : decode cX8_of 72 = .ok (.getfield 98, 3) := by decide +kernel
theorem dX8_of_75 : decode cX8_of 75 = .ok (.getfield 121, 3) := by decide +kernel
theorem dX8_of_78 : decode cX8_of 78 = .ok (.iload_n 1, 1) := by decide +kernel
theorem dX8_of_79 : decode cX8_of 79 = .ok (.iaload, 1) := by decide +kernel
theorem dX8_of_80 : decode cX8_of 80 = .ok (.ireturn, 1) := by decide +kernel
theorem dX8_of_81 : decode cX8_of 81 = .ok (.aload_n 0, 1) := by decide +kernel
theorem dX8_of_82 : decode cX8_of 82 = .ok (.getfield 10, 3) := by decide +kernel
theorem dX8_of_85 : decode cX8_of 85 = .ok (.getfield 98, 3) := by decide +kernel
theorem dX8_of_88 : decode cX8_of 88 = .ok (.getfield 163, 3) := by decide +kernel
theorem dX8_of_91 : decode cX8_of 91 = .ok (.iload_n 1, 1) := by decide +kernel
theorem dX8_of_92 : decode cX8_of 92 = .ok (.iaload, 1) := by decide +kernel
theorem dX8_of_93 : decode cX8_of 93 = .ok (.ireturn, 1) := by decide +kernel
theorem dX8_of_94 : decode cX8_of 94 = .ok (.aload_n 0, 1) := by decide +kernel
theorem dX8_of_95 : decode cX8_of 95 = .ok (.invokevirtual 117, 3) := by decide +kernel
theorem dX8_of_98 : decode cX8_of 98 = .ok (.ireturn, 1) := by decide +kernel
theorem dX8_about_0 : decode cX8_about 0 = .ok (.iload_n 1, 1) := by decide +kernel
theorem dX8_about_1 : decode cX8_about 1 = .ok (.invokestatic 95, 3) := by decide +kernel
theorem dX8_about_4 : decode cX8_about 4 = .ok (.ifCond .ne 10, 3) := by decide +kernel
theorem dX8_about_7 : decode cX8_about 7 = .ok (.aload_n 0, 1) := by decide +kernel
theorem dX8_about_8 : decode cX8_about 8 = .ok (.bipush (-2), 2) := by decide +kernel
theorem dX8_about_10 : decode cX8_about 10 = .ok (.invokevirtual 68, 3) := by decide +kernel
theorem dX8_about_13 : decode cX8_about 13 = .ok (.ireturn, 1) := by decide +kernel
theorem dX8_about_14 : decode cX8_about 14 = .ok (.iload_n 2, 1) := by decide +kernel
theorem dX8_about_15 : decode cX8_about 15 = .ok (.tableswitch 65 0 2 #[25, 38, 50], 25) := by decide +kernel
theorem dX8_about_40 : decode cX8_about 40 = .ok (.aload_n 0, 1) := by decide +kernel
theorem dX8_about_41 : decode cX8_about 41 = .ok (.getfield 10, 3) := by decide +kernel
theorem dX8_about_44 : decode cX8_about 44 = .ok (.getfield 98, 3) := by decide +kernel
theorem dX8_about_47 : decode cX8_about 47 = .ok (.getfield 166, 3) := by decide +kernel
theorem dX8_about_50 : decode cX8_about 50 = .ok (.iload_n 1, 1) := by decide +kernel
theorem dX8_about_51 : decode cX8_about 51 = .ok (.iaload, 1) := by decide +kernel
theorem dX8_about_52 : decode cX8_about 52 = .ok (.ireturn, 1) := by decide +kernel
theorem dX8_about_53 : decode cX8_about 53 = .ok (.aload_n 0, 1) := by decide +kernel
theorem dX8_about_54 : decode cX8_about 54 = .ok (.getfield 10, 3) := by decide +kernel
theorem dX8_about_57 : decode cX8_about 57 = .ok (.getfield 98, 3) := by decide +kernel
theorem dX8_about_60 : decode cX8_about 60 = .ok (.iload_n 1, 1) := by decide +kernel
theorem dX8_about_61 : decode cX8_about 61 = .ok (.invokevirtual 140, 3) := by decide +kernel
theorem dX8_about_64 : decode cX8_about 64 = .ok (.ireturn, 1) := by decide +kernel
theorem dX8_about_65 : decode cX8_about 65 = .ok (.aload_n 0, 1) := by decide +kernel
theorem dX8_about_66 : decode cX8_about 66 = .ok (.getfield 10, 3) := by decide +kernel
theorem dX8_about_69 : decode cX8_about 69 = .ok (.getfield 98, 3) := by decide +kernel
theorem dX8_about_72 : decode cX8_about 72 = .ok (.getfield 137, 3) := by decide +kernel
theorem dX8_about_75 : decode cX8_about 75 = .ok (.iload_n 1, 1) := by decide +kernel
theorem dX8_about_76 : decode cX8_about 76 = .ok (.ishr, 1) := by decide +kernel
theorem dX8_about_77 : decode cX8_about 77 = .ok (.iconst 1, 1) := by decide +kernel
theorem dX8_about_78 : decode cX8_about 78 = .ok (.iand, 1) := by decide +kernel
theorem dX8_about_79 : decode cX8_about 79 = .ok (.ireturn, 1) := by decide +kernel
theorem dX8_about_80 : decode cX8_about 80 = .ok (.aload_n 0, 1) := by decide +kernel
theorem dX8_about_81 : decode cX8_about 81 = .ok (.bipush (-2), 2) := by decide +kernel
theorem dX8_about_83 : decode cX8_about 83 = .ok (.invokevirtual 68, 3) := by decide +kernel
theorem dX8_about_86 : decode cX8_about 86 = .ok (.ireturn, 1) := by decide +kernel
theorem dX8_asks_0 : decode cX8_asks 0 = .ok (.aload_n 0, 1) := by decide +kernel
theorem dX8_asks_1 : decode cX8_asks 1 = .ok (.getfield 10, 3) := by decide +kernel
theorem dX8_asks_4 : decode cX8_asks 4 = .ok (.iload_n 1, 1) := by decide +kernel
theorem dX8_asks_5 : decode cX8_asks 5 = .ok (.invokevirtual 91, 3) := by decide +kernel
theorem dX8_asks_8 : decode cX8_asks 8 = .ok (.ifCond .eq 10, 3) := by decide +kernel
theorem dX8_asks_11 : decode cX8_asks 11 = .ok (.iload_n 2, 1) := by decide +kernel
theorem dX8_asks_12 : decode cX8_asks 12 = .ok (.invokestatic 95, 3) := by decide +kernel
theorem dX8_asks_15 : decode cX8_asks 15 = .ok (.ifCond .ne 10, 3) := by decide +kernel
theorem dX8_asks_18 : decode cX8_asks 18 = .ok (.aload_n 0, 1) := by decide +kernel
theorem dX8_asks_19 : decode cX8_asks 19 = .ok (.bipush (-2), 2) := by decide +kernel
theorem dX8_asks_21 : decode cX8_asks 21 = .ok (.invokevirtual 68, 3) := by decide +kernel
theorem dX8_asks_24 : decode cX8_asks 24 = .ok (.ireturn, 1) := by decide +kernel
theorem dX8_asks_25 : decode cX8_asks 25 = .ok (.aload_n 0, 1) := by decide +kernel
theorem dX8_asks_26 : decode cX8_asks 26 = .ok (.getfield 10, 3) := by decide +kernel
theorem dX8_asks_29 : decode cX8_asks 29 = .ok (.getfield 98, 3) := by decide +kernel
theorem dX8_asks_32 : decode cX8_asks 32 = .ok (.getfield 108, 3) := by decide +kernel
theorem dX8_asks_35 : decode cX8_asks 35 = .ok (.istore 4, 2) := by decide +kernel
theorem dX8_asks_37 : decode cX8_asks 37 = .ok (.aload_n 0, 1) := by decide +kernel
theorem dX8_asks_38 : decode cX8_asks 38 = .ok (.getfield 10, 3) := by decide +kernel
theorem dX8_asks_41 : decode cX8_asks 41 = .ok (.iload_n 1, 1) := by decide +kernel
theorem dX8_asks_42 : decode cX8_asks 42 = .ok (.iload_n 2, 1) := by decide +kernel
theorem dX8_asks_43 : decode cX8_asks 43 = .ok (.invokevirtual 169, 3) := by decide +kernel
theorem dX8_asks_46 : decode cX8_asks 46 = .ok (.istore 5, 2) := by decide +kernel
theorem dX8_asks_48 : decode cX8_asks 48 = .ok (.iload_n 3, 1) := by decide +kernel
theorem dX8_asks_49 : decode cX8_asks 49 = .ok (.tableswitch 73 0 2 #[27, 39, 51], 27) := by decide +kernel
theorem dX8_asks_76 : decode cX8_asks 76 = .ok (.aload_n 0, 1) := by decide +kernel
theorem dX8_asks_77 : decode cX8_asks 77 = .ok (.getfield 10, 3) := by decide +kernel
theorem dX8_asks_80 : decode cX8_asks 80 = .ok (.iload_n 1, 1) := by decide +kernel
theorem dX8_asks_81 : decode cX8_asks 81 = .ok (.iload_n 2, 1) := by decide +kernel
theorem dX8_asks_82 : decode cX8_asks 82 = .ok (.iload 4, 2) := by decide +kernel
theorem dX8_asks_84 : decode cX8_asks 84 = .ok (.invokevirtual 173, 3) := by decide +kernel
theorem dX8_asks_87 : decode cX8_asks 87 = .ok (.ireturn, 1) := by decide +kernel
theorem dX8_asks_88 : decode cX8_asks 88 = .ok (.aload_n 0, 1) := by decide +kernel
theorem dX8_asks_89 : decode cX8_asks 89 = .ok (.getfield 10, 3) := by decide +kernel
theorem dX8_asks_92 : decode cX8_asks 92 = .ok (.iload 5, 2) := by decide +kernel
theorem dX8_asks_94 : decode cX8_asks 94 = .ok (.iload 4, 2) := by decide +kernel
theorem dX8_asks_96 : decode cX8_asks 96 = .ok (.invokevirtual 177, 3) := by decide +kernel
theorem dX8_asks_99 : decode cX8_asks 99 = .ok (.ireturn, 1) := by decide +kernel
theorem dX8_asks_100 : decode cX8_asks 100 = .ok (.aload_n 0, 1) := by decide +kernel
theorem dX8_asks_101 : decode cX8_asks 101 = .ok (.getfield 10, 3) := by decide +kernel
theorem dX8_asks_104 : decode cX8_asks 104 = .ok (.iload_n 1, 1) := by decide +kernel
theorem dX8_asks_105 : decode cX8_asks 105 = .ok (.iload_n 2, 1) := by decide +kernel
theorem dX8_asks_106 : decode cX8_asks 106 = .ok (.iload 5, 2) := by decide +kernel
theorem dX8_asks_108 : decode cX8_asks 108 = .ok (.iload 4, 2) := by decide +kernel
theorem dX8_asks_110 : decode cX8_asks 110 = .ok (.invokevirtual 180, 3) := by decide +kernel
theorem dX8_asks_113 : decode cX8_asks 113 = .ok (.ifCond .eq 7, 3) := by decide +kernel
theorem dX8_asks_116 : decode cX8_asks 116 = .ok (.iconst 1, 1) := by decide +kernel
theorem dX8_asks_117 : decode cX8_asks 117 = .ok (.goto 4, 3) := by decide +kernel
theorem dX8_asks_120 : decode cX8_asks 120 = .ok (.iconst 0, 1) := by decide +kernel
theorem dX8_asks_121 : decode cX8_asks 121 = .ok (.ireturn, 1) := by decide +kernel
theorem dX8_asks_122 : decode cX8_asks 122 = .ok (.aload_n 0, 1) := by decide +kernel
theorem dX8_asks_123 : decode cX8_asks 123 = .ok (.bipush (-2), 2) := by decide +kernel
theorem dX8_asks_125 : decode cX8_asks 125 = .ok (.invokevirtual 68, 3) := by decide +kernel
theorem dX8_asks_128 : decode cX8_asks 128 = .ok (.ireturn, 1) := by decide +kernel
theorem dX8_word_0 : decode cX8_word 0 = .ok (.aload_n 0, 1) := by decide +kernel
theorem dX8_word_1 : decode cX8_word 1 = .ok (.getfield 10, 3) := by decide +kernel
theorem dX8_word_4 : decode cX8_word 4 = .ok (.iload_n 1, 1) := by decide +kernel
theorem dX8_word_5 : decode cX8_word 5 = .ok (.invokevirtual 91, 3) := by decide +kernel
theorem dX8_word_8 : decode cX8_word 8 = .ok (.ifCond .ne 10, 3) := by decide +kernel
theorem dX8_word_11 : decode cX8_word 11 = .ok (.aload_n 0, 1) := by decide +kernel
theorem dX8_word_12 : decode cX8_word 12 = .ok (.bipush (-2), 2) := by decide +kernel
theorem dX8_word_14 : decode cX8_word 14 = .ok (.invokevirtual 68, 3) := by decide +kernel
theorem dX8_word_17 : decode cX8_word 17 = .ok (.ireturn, 1) := by decide +kernel
theorem dX8_word_18 : decode cX8_word 18 = .ok (.aload_n 0, 1) := by decide +kernel
theorem dX8_word_19 : decode cX8_word 19 = .ok (.getfield 10, 3) := by decide +kernel
theorem dX8_word_22 : decode cX8_word 22 = .ok (.iload_n 1, 1) := by decide +kernel
theorem dX8_word_23 : decode cX8_word 23 = .ok (.aload_n 0, 1) := by decide +kernel
theorem dX8_word_24 : decode cX8_word 24 = .ok (.getfield 10, 3) := by decide +kernel
theorem dX8_word_27 : decode cX8_word 27 = .ok (.getfield 98, 3) := by decide +kernel
theorem dX8_word_30 : decode cX8_word 30 = .ok (.getfield 108, 3) := by decide +kernel
theorem dX8_word_33 : decode cX8_word 33 = .ok (.invokevirtual 184, 3) := by decide +kernel
theorem dX8_word_36 : decode cX8_word 36 = .ok (.ireturn, 1) := by decide +kernel
theorem dX8_high_0 : decode cX8_high 0 = .ok (.aload_n 0, 1) := by decide +kernel
theorem dX8_high_1 : decode cX8_high 1 = .ok (.getfield 10, 3) := by decide +kernel
theorem dX8_high_4 : decode cX8_high 4 = .ok (.iload_n 1, 1) := by decide +kernel
theorem dX8_high_5 : decode cX8_high 5 = .ok (.invokevirtual 91, 3) := by decide +kernel
theorem dX8_high_8 : decode cX8_high 8 = .ok (.ifCond .ne 8, 3) := by decide +kernel
theorem dX8_high_11 : decode cX8_high 11 = .ok (.aload_n 0, 1) := by decide +kernel
theorem dX8_high_12 : decode cX8_high 12 = .ok (.invokevirtual 117, 3) := by decide +kernel
theorem dX8_high_15 : decode cX8_high 15 = .ok (.ireturn, 1) := by decide +kernel
theorem dX8_high_16 : decode cX8_high 16 = .ok (.aload_n 0, 1) := by decide +kernel
theorem dX8_high_17 : decode cX8_high 17 = .ok (.getfield 10, 3) := by decide +kernel
theorem dX8_high_20 : decode cX8_high 20 = .ok (.getfield 98, 3) := by decide +kernel
theorem dX8_high_23 : decode cX8_high 23 = .ok (.iload_n 1, 1) := by decide +kernel
theorem dX8_high_24 : decode cX8_high 24 = .ok (.invokevirtual 187, 3) := by decide +kernel
theorem dX8_high_27 : decode cX8_high 27 = .ok (.ireturn, 1) := by decide +kernel
theorem dX8_hears_0 : decode cX8_hears 0 = .ok (.aload_n 0, 1) := by decide +kernel
theorem dX8_hears_1 : decode cX8_hears 1 = .ok (.getfield 10, 3) := by decide +kernel
theorem dX8_hears_4 : decode cX8_hears 4 = .ok (.iload_n 1, 1) := by decide +kernel
theorem dX8_hears_5 : decode cX8_hears 5 = .ok (.invokevirtual 91, 3) := by decide +kernel
theorem dX8_hears_8 : decode cX8_hears 8 = .ok (.ifCond .eq 10, 3) := by decide +kernel
theorem dX8_hears_11 : decode cX8_hears 11 = .ok (.iload_n 2, 1) := by decide +kernel
theorem dX8_hears_12 : decode cX8_hears 12 = .ok (.invokestatic 95, 3) := by decide +kernel
theorem dX8_hears_15 : decode cX8_hears 15 = .ok (.ifCond .ne 10, 3) := by decide +kernel
theorem dX8_hears_18 : decode cX8_hears 18 = .ok (.aload_n 0, 1) := by decide +kernel
theorem dX8_hears_19 : decode cX8_hears 19 = .ok (.bipush (-2), 2) := by decide +kernel
theorem dX8_hears_21 : decode cX8_hears 21 = .ok (.invokevirtual 68, 3) := by decide +kernel
theorem dX8_hears_24 : decode cX8_hears 24 = .ok (.ireturn, 1) := by decide +kernel
theorem dX8_hears_25 : decode cX8_hears 25 = .ok (.aload_n 0, 1) := by decide +kernel
theorem dX8_hears_26 : decode cX8_hears 26 = .ok (.getfield 10, 3) := by decide +kernel
theorem dX8_hears_29 : decode cX8_hears 29 = .ok (.getfield 98, 3) := by decide +kernel
theorem dX8_hears_32 : decode cX8_hears 32 = .ok (.getfield 163, 3) := by decide +kernel
theorem dX8_hears_35 : decode cX8_hears 35 = .ok (.iload_n 1, 1) := by decide +kernel
theorem dX8_hears_36 : decode cX8_hears 36 = .ok (.iaload, 1) := by decide +kernel
theorem dX8_hears_37 : decode cX8_hears 37 = .ok (.istore_n 3, 1) := by decide +kernel
theorem dX8_hears_38 : decode cX8_hears 38 = .ok (.iconst 0, 1) := by decide +kernel
theorem dX8_hears_39 : decode cX8_hears 39 = .ok (.istore 4, 2) := by decide +kernel
theorem dX8_hears_41 : decode cX8_hears 41 = .ok (.iload 4, 2) := by decide +kernel
theorem dX8_hears_43 : decode cX8_hears 43 = .ok (.bipush 60, 2) := by decide +kernel
theorem dX8_hears_45 : decode cX8_hears 45 = .ok (.if_icmp .gt 33, 3) := by decide +kernel
theorem dX8_hears_48 : decode cX8_hears 48 = .ok (.iload_n 3, 1) := by decide +kernel
theorem dX8_hears_49 : decode cX8_hears 49 = .ok (.iload_n 2, 1) := by decide +kernel
theorem dX8_hears_50 : decode cX8_hears 50 = .ok (.ishr, 1) := by decide +kernel
theorem dX8_hears_51 : decode cX8_hears 51 = .ok (.iconst 1, 1) := by decide +kernel
theorem dX8_hears_52 : decode cX8_hears 52 = .ok (.iand, 1) := by decide +kernel
theorem dX8_hears_53 : decode cX8_hears 53 = .ok (.iconst 1, 1) := by decide +kernel
theorem dX8_hears_54 : decode cX8_hears 54 = .ok (.if_icmp .ne 6, 3) := by decide +kernel
theorem dX8_hears_57 : decode cX8_hears 57 = .ok (.iload 4, 2) := by decide +kernel
theorem dX8_hears_59 : decode cX8_hears 59 = .ok (.ireturn, 1) := by decide +kernel
theorem dX8_hears_60 : decode cX8_hears 60 = .ok (.aload_n 0, 1) := by decide +kernel
theorem dX8_hears_61 : decode cX8_hears 61 = .ok (.getfield 10, 3) := by decide +kernel
theorem dX8_hears_64 : decode cX8_hears 64 = .ok (.getfield 98, 3) := by decide +kernel
theorem dX8_hears_67 : decode cX8_hears 67 = .ok (.iload_n 3, 1) := by decide +kernel
theorem dX8_hears_68 : decode cX8_hears 68 = .ok (.invokevirtual 190, 3) := by decide +kernel
theorem dX8_hears_71 : decode cX8_hears 71 = .ok (.istore_n 3, 1) := by decide +kernel
theorem dX8_hears_72 : decode cX8_hears 72 = .ok (.iinc 4 1, 3) := by decide +kernel
theorem dX8_hears_75 : decode cX8_hears 75 = .ok (.goto (-34), 3) := by decide +kernel
theorem dX8_hears_78 : decode cX8_hears 78 = .ok (.iconst (-1), 1) := by decide +kernel
theorem dX8_hears_79 : decode cX8_hears 79 = .ok (.ireturn, 1) := by decide +kernel
theorem dX8_then_0 : decode cX8_then 0 = .ok (.aload_n 0, 1) := by decide +kernel
theorem dX8_then_1 : decode cX8_then 1 = .ok (.getfield 10, 3) := by decide +kernel
theorem dX8_then_4 : decode cX8_then 4 = .ok (.iload_n 1, 1) := by decide +kernel
theorem dX8_then_5 : decode cX8_then 5 = .ok (.invokevirtual 91, 3) := by decide +kernel
theorem dX8_then_8 : decode cX8_then 8 = .ok (.ifCond .eq 13, 3) := by decide +kernel
theorem dX8_then_11 : decode cX8_then 11 = .ok (.iload_n 2, 1) := by decide +kernel
theorem dX8_then_12 : decode cX8_then 12 = .ok (.iconst 0, 1) := by decide +kernel
theorem dX8_then_13 : decode cX8_then 13 = .ok (.bipush 60, 2) := by decide +kernel
theorem dX8_then_15 : decode cX8_then 15 = .ok (.invokestatic 64, 3) := by decide +kernel
theorem dX8_then_18 : decode cX8_then 18 = .ok (.ifCond .ne 10, 3) := by decide +kernel
theorem dX8_then_21 : decode cX8_then 21 = .ok (.aload_n 0, 1) := by decide +kernel
theorem dX8_then_22 : decode cX8_then 22 = .ok (.bipush (-2), 2) := by decide +kernel
theorem dX8_then_24 : decode cX8_then 24 = .ok (.invokevirtual 68, 3) := by decide +kernel
theorem dX8_then_27 : decode cX8_then 27 = .ok (.ireturn, 1) := by decide +kernel
theorem dX8_then_28 : decode cX8_then 28 = .ok (.aload_n 0, 1) := by decide +kernel
theorem dX8_then_29 : decode cX8_then 29 = .ok (.getfield 10, 3) := by decide +kernel
theorem dX8_then_32 : decode cX8_then 32 = .ok (.getfield 98, 3) := by decide +kernel
theorem dX8_then_35 : decode cX8_then 35 = .ok (.getfield 163, 3) := by decide +kernel
theorem dX8_then_38 : decode cX8_then 38 = .ok (.iload_n 1, 1) := by decide +kernel
theorem dX8_then_39 : decode cX8_then 39 = .ok (.iaload, 1) := by decide +kernel
theorem dX8_then_40 : decode cX8_then 40 = .ok (.istore_n 3, 1) := by decide +kernel
theorem dX8_then_41 : decode cX8_then 41 = .ok (.iconst 0, 1) := by decide +kernel
theorem dX8_then_42 : decode cX8_then 42 = .ok (.istore 4, 2) := by decide +kernel
theorem dX8_then_44 : decode cX8_then 44 = .ok (.iload 4, 2) := by decide +kernel
theorem dX8_then_46 : decode cX8_then 46 = .ok (.iload_n 2, 1) := by decide +kernel
theorem dX8_then_47 : decode cX8_then 47 = .ok (.if_icmp .ge 21, 3) := by decide +kernel
theorem dX8_then_50 : decode cX8_then 50 = .ok (.aload_n 0, 1) := by decide +kernel
theorem dX8_then_51 : decode cX8_then 51 = .ok (.getfield 10, 3) := by decide +kernel
theorem dX8_then_54 : decode cX8_then 54 = .ok (.getfield 98, 3) := by decide +kernel
theorem dX8_then_57 : decode cX8_then 57 = .ok (.iload_n 3, 1) := by decide +kernel
theorem dX8_then_58 : decode cX8_then 58 = .ok (.invokevirtual 190, 3) := by decide +kernel
theorem dX8_then_61 : decode cX8_then 61 = .ok (.istore_n 3, 1) := by decide +kernel
theorem dX8_then_62 : decode cX8_then 62 = .ok (.iinc 4 1, 3) := by decide +kernel
theorem dX8_then_65 : decode cX8_then 65 = .ok (.goto (-21), 3) := by decide +kernel
theorem dX8_then_68 : decode cX8_then 68 = .ok (.iload_n 3, 1) := by decide +kernel
theorem dX8_then_69 : decode cX8_then 69 = .ok (.ireturn, 1) := by decide +kernel
theorem dX8_plan_0 : decode cX8_plan 0 = .ok (.aload_n 0, 1) := by decide +kernel
theorem dX8_plan_1 : decode cX8_plan 1 = .ok (.getfield 10, 3) := by decide +kernel
theorem dX8_plan_4 : decode cX8_plan 4 = .ok (.iload_n 1, 1) := by decide +kernel
theorem dX8_plan_5 : decode cX8_plan 5 = .ok (.invokevirtual 91, 3) := by decide +kernel
theorem dX8_plan_8 : decode cX8_plan 8 = .ok (.ifCond .eq 24, 3) := by decide +kernel
theorem dX8_plan_11 : decode cX8_plan 11 = .ok (.iload_n 2, 1) := by decide +kernel
theorem dX8_plan_12 : decode cX8_plan 12 = .ok (.iconst 0, 1) := by decide +kernel
theorem dX8_plan_13 : decode cX8_plan 13 = .ok (.bipush 8, 2) := by decide +kernel
theorem dX8_plan_15 : decode cX8_plan 15 = .ok (.invokestatic 64, 3) := by decide +kernel
theorem dX8_plan_18 : decode cX8_plan 18 = .ok (.ifCond .eq 14, 3) := by decide +kernel
theorem dX8_plan_21 : decode cX8_plan 21 = .ok (.iload_n 3, 1) := by decide +kernel
theorem dX8_plan_22 : decode cX8_plan 22 = .ok (.bipush (-2), 2) := by decide +kernel
theorem dX8_plan_24 : decode cX8_plan 24 = .ok (.if_icmp .lt 8, 3) := by decide +kernel
theorem dX8_plan_27 : decode cX8_plan 27 = .ok (.iload_n 3, 1) := by decide +kernel
theorem dX8_plan_28 : decode cX8_plan 28 = .ok (.iconst (-1), 1) := by decide +kernel
theorem dX8_plan_29 : decode cX8_plan 29 = .ok (.if_icmp .ne 8, 3) := by decide +kernel
theorem dX8_plan_32 : decode cX8_plan 32 = .ok (.aload_n 0, 1) := by decide +kernel
theorem dX8_plan_33 : decode cX8_plan 33 = .ok (.invokevirtual 117, 3) := by decide +kernel
theorem dX8_plan_36 : decode cX8_plan 36 = .ok (.ireturn, 1) := by decide +kernel
theorem dX8_plan_37 : decode cX8_plan 37 = .ok (.aload_n 0, 1) := by decide +kernel
theorem dX8_plan_38 : decode cX8_plan 38 = .ok (.getfield 37, 3) := by decide +kernel
theorem dX8_plan_41 : decode cX8_plan 41 = .ok (.aload_n 0, 1) := by decide +kernel
theorem dX8_plan_42 : decode cX8_plan 42 = .ok (.getfield 10, 3) := by decide +kernel
theorem dX8_plan_45 : decode cX8_plan 45 = .ok (.iload_n 1, 1) := by decide +kernel
theorem dX8_plan_46 : decode cX8_plan 46 = .ok (.iload_n 2, 1) := by decide +kernel
theorem dX8_plan_47 : decode cX8_plan 47 = .ok (.invokevirtual 193, 3) := by decide +kernel
theorem dX8_plan_50 : decode cX8_plan 50 = .ok (.istore 4, 2) := by decide +kernel
theorem dX8_plan_52 : decode cX8_plan 52 = .ok (.iload 4, 2) := by decide +kernel
theorem dX8_plan_54 : decode cX8_plan 54 = .ok (.iconst (-1), 1) := by decide +kernel
theorem dX8_plan_55 : decode cX8_plan 55 = .ok (.if_icmp .ne 6, 3) := by decide +kernel
theorem dX8_plan_58 : decode cX8_plan 58 = .ok (.bipush (-6), 2) := by decide +kernel
theorem dX8_plan_60 : decode cX8_plan 60 = .ok (.ireturn, 1) := by decide +kernel
theorem dX8_plan_61 : decode cX8_plan 61 = .ok (.iload_n 3, 1) := by decide +kernel
theorem dX8_plan_62 : decode cX8_plan 62 = .ok (.bipush (-2), 2) := by decide +kernel
theorem dX8_plan_64 : decode cX8_plan 64 = .ok (.if_icmp .ne 6, 3) := by decide +kernel
theorem dX8_plan_67 : decode cX8_plan 67 = .ok (.iload 4, 2) := by decide +kernel
theorem dX8_plan_69 : decode cX8_plan 69 = .ok (.ireturn, 1) := by decide +kernel
theorem dX8_plan_70 : decode cX8_plan 70 = .ok (.iload_n 3, 1) := by decide +kernel
theorem dX8_plan_71 : decode cX8_plan 71 = .ok (.iload 4, 2) := by decide +kernel
theorem dX8_plan_73 : decode cX8_plan 73 = .ok (.if_icmp .ge 14, 3) := by decide +kernel
theorem dX8_plan_76 : decode cX8_plan 76 = .ok (.aload_n 0, 1) := by decide +kernel
theorem dX8_plan_77 : decode cX8_plan 77 = .ok (.getfield 37, 3) := by decide +kernel
theorem dX8_plan_80 : decode cX8_plan 80 = .ok (.iload_n 3, 1) := by decide +kernel
theorem dX8_plan_81 : decode cX8_plan 81 = .ok (.invokevirtual 197, 3) := by decide +kernel
theorem dX8_plan_84 : decode cX8_plan 84 = .ok (.goto 5, 3) := by decide +kernel
theorem dX8_plan_87 : decode cX8_plan 87 = .ok (.bipush (-5), 2) := by decide +kernel
theorem dX8_plan_89 : decode cX8_plan 89 = .ok (.ireturn, 1) := by decide +kernel
theorem dX8_seen_0 : decode cX8_seen 0 = .ok (.aload_n 0, 1) := by decide +kernel
theorem dX8_seen_1 : decode cX8_seen 1 = .ok (.getfield 10, 3) := by decide +kernel
theorem dX8_seen_4 : decode cX8_seen 4 = .ok (.iload_n 1, 1) := by decide +kernel
theorem dX8_seen_5 : decode cX8_seen 5 = .ok (.invokevirtual 91, 3) := by decide +kernel
theorem dX8_seen_8 : decode cX8_seen 8 = .ok (.ifCond .eq 19, 3) := by decide +kernel
theorem dX8_seen_11 : decode cX8_seen 11 = .ok (.iload_n 2, 1) := by decide +kernel
theorem dX8_seen_12 : decode cX8_seen 12 = .ok (.invokestatic 95, 3) := by decide +kernel
theorem dX8_seen_15 : decode cX8_seen 15 = .ok (.ifCond .eq 12, 3) := by decide +kernel
theorem dX8_seen_18 : decode cX8_seen 18 = .ok (.iload_n 3, 1) := by decide +kernel
theorem dX8_seen_19 : decode cX8_seen 19 = .ok (.iconst 0, 1) := by decide +kernel
theorem dX8_seen_20 : decode cX8_seen 20 = .ok (.iconst 1, 1) := by decide +kernel
theorem dX8_seen_21 : decode cX8_seen 21 = .ok (.invokestatic 64, 3) := by decide +kernel
theorem dX8_seen_24 : decode cX8_seen 24 = .ok (.ifCond .ne 10, 3) := by decide +kernel
theorem dX8_seen_27 : decode cX8_seen 27 = .ok (.aload_n 0, 1) := by decide +kernel
theorem dX8_seen_28 : decode cX8_seen 28 = .ok (.bipush (-2), 2) := by decide +kernel
theorem dX8_seen_30 : decode cX8_seen 30 = .ok (.invokevirtual 68, 3) := by decide +kernel
theorem dX8_seen_33 : decode cX8_seen 33 = .ok (.ireturn, 1) := by decide +kernel
theorem dX8_seen_34 : decode cX8_seen 34 = .ok (.aload_n 0, 1) := by decide +kernel
theorem dX8_seen_35 : decode cX8_seen 35 = .ok (.aload_n 0, 1) := by decide +kernel
theorem dX8_seen_36 : decode cX8_seen 36 = .ok (.getfield 10, 3) := by decide +kernel
theorem dX8_seen_39 : decode cX8_seen 39 = .ok (.getfield 200, 3) := by decide +kernel
theorem dX8_seen_42 : decode cX8_seen 42 = .ok (.iload_n 1, 1) := by decide +kernel
theorem dX8_seen_43 : decode cX8_seen 43 = .ok (.iload_n 2, 1) := by decide +kernel
theorem dX8_seen_44 : decode cX8_seen 44 = .ok (.iload_n 3, 1) := by decide +kernel
theorem dX8_seen_45 : decode cX8_seen 45 = .ok (.iconst 0, 1) := by decide +kernel
theorem dX8_seen_46 : decode cX8_seen 46 = .ok (.invokevirtual 204, 3) := by decide +kernel
theorem dX8_seen_49 : decode cX8_seen 49 = .ok (.ireturn, 1) := by decide +kernel
theorem dX8_may_0 : decode cX8_may 0 = .ok (.aload_n 0, 1) := by decide +kernel
theorem dX8_may_1 : decode cX8_may 1 = .ok (.getfield 10, 3) := by decide +kernel
theorem dX8_may_4 : decode cX8_may 4 = .ok (.iload_n 1, 1) := by decide +kernel
theorem dX8_may_5 : decode cX8_may 5 = .ok (.invokevirtual 91, 3) := by decide +kernel
theorem dX8_may_8 : decode cX8_may 8 = .ok (.ifCond .eq 12, 3) := by decide +kernel
theorem dX8_may_11 : decode cX8_may 11 = .ok (.iload_n 2, 1) := by decide +kernel
theorem dX8_may_12 : decode cX8_may 12 = .ok (.iconst 0, 1) := by decide +kernel
theorem dX8_may_13 : decode cX8_may 13 = .ok (.iconst 2, 1) := by decide +kernel
theorem dX8_may_14 : decode cX8_may 14 = .ok (.invokestatic 64, 3) := by decide +kernel
theorem dX8_may_17 : decode cX8_may 17 = .ok (.ifCond .ne 10, 3) := by decide +kernel
theorem dX8_may_20 : decode cX8_may 20 = .ok (.aload_n 0, 1) := by decide +kernel
theorem dX8_may_21 : decode cX8_may 21 = .ok (.bipush (-2), 2) := by decide +kernel
theorem dX8_may_23 : decode cX8_may 23 = .ok (.invokevirtual 68, 3) := by decide +kernel
theorem dX8_may_26 : decode cX8_may 26 = .ok (.ireturn, 1) := by decide +kernel
theorem dX8_may_27 : decode cX8_may 27 = .ok (.iconst 0, 1) := by decide +kernel
theorem dX8_may_28 : decode cX8_may 28 = .ok (.istore_n 3, 1) := by decide +kernel
theorem dX8_may_29 : decode cX8_may 29 = .ok (.sipush 255, 3) := by decide +kernel
theorem dX8_may_32 : decode cX8_may 32 = .ok (.istore 4, 2) := by decide +kernel
theorem dX8_may_34 : decode cX8_may 34 = .ok (.iconst 0, 1) := by decide +kernel
theorem dX8_may_35 : decode cX8_may 35 = .ok (.istore 5, 2) := by decide +kernel
theorem dX8_may_37 : decode cX8_may 37 = .ok (.iconst 0, 1) := by decide +kernel
theorem dX8_may_38 : decode cX8_may 38 = .ok (.istore 6, 2) := by decide +kernel
theorem dX8_may_40 : decode cX8_may 40 = .ok (.iload 6, 2) := by decide +kernel
theorem dX8_may_42 : decode cX8_may 42 = .ok (.sipush 256, 3) := by decide +kernel
theorem dX8_may_45 : decode cX8_may 45 = .ok (.if_icmp .ge 39, 3) := by decide +kernel
theorem dX8_may_48 : decode cX8_may 48 = .ok (.aload_n 0, 1) := by decide +kernel
theorem dX8_may_49 : decode cX8_may 49 = .ok (.getfield 10, 3) := by decide +kernel
theorem dX8_may_52 : decode cX8_may 52 = .ok (.iload_n 1, 1) := by decide +kernel
theorem dX8_may_53 : decode cX8_may 53 = .ok (.iload 6, 2) := by decide +kernel
theorem dX8_may_55 : decode cX8_may 55 = .ok (.invokevirtual 208, 3) := by decide +kernel
theorem dX8_may_58 : decode cX8_may 58 = .ok (.ifCond .eq 20, 3) := by decide +kernel
theorem dX8_may_61 : decode cX8_may 61 = .ok (.iinc 3 1, 3) := by decide +kernel
theorem dX8_may_64 : decode cX8_may 64 = .ok (.iload 4, 2) := by decide +kernel
theorem dX8_may_66 : decode cX8_may 66 = .ok (.iload 6, 2) := by decide +kernel
theorem dX8_may_68 : decode cX8_may 68 = .ok (.iand, 1) := by decide +kernel
theorem dX8_may_69 : decode cX8_may 69 = .ok (.istore 4, 2) := by decide +kernel
theorem dX8_may_71 : decode cX8_may 71 = .ok (.iload 5, 2) := by decide +kernel
theorem dX8_may_73 : decode cX8_may 73 = .ok (.iload 6, 2) := by decide +kernel
theorem dX8_may_75 : decode cX8_may 75 = .ok (.ior, 1) := by decide +kernel
theorem dX8_may_76 : decode cX8_may 76 = .ok (.istore 5, 2) := by decide +kernel
theorem dX8_may_78 : decode cX8_may 78 = .ok (.iinc 6 1, 3) := by decide +kernel
theorem dX8_may_81 : decode cX8_may 81 = .ok (.goto (-41), 3) := by decide +kernel
theorem dX8_may_84 : decode cX8_may 84 = .ok (.iload_n 2, 1) := by decide +kernel
theorem dX8_may_85 : decode cX8_may 85 = .ok (.lookupswitch 40 #[(0, 27), (1, 29)], 27) := by decide +kernel
theorem dX8_may_112 : decode cX8_may 112 = .ok (.iload_n 3, 1) := by decide +kernel
theorem dX8_may_113 : decode cX8_may 113 = .ok (.ireturn, 1) := by decide +kernel
theorem dX8_may_114 : decode cX8_may 114 = .ok (.iload_n 3, 1) := by decide +kernel
theorem dX8_may_115 : decode cX8_may 115 = .ok (.ifCond .ne 7, 3) := by decide +kernel
theorem dX8_may_118 : decode cX8_may 118 = .ok (.iconst (-1), 1) := by decide +kernel
theorem dX8_may_119 : decode cX8_may 119 = .ok (.goto 5, 3) := by decide +kernel
theorem dX8_may_122 : decode cX8_may 122 = .ok (.iload 4, 2) := by decide +kernel
theorem dX8_may_124 : decode cX8_may 124 = .ok (.ireturn, 1) := by decide +kernel
theorem dX8_may_125 : decode cX8_may 125 = .ok (.iload 5, 2) := by decide +kernel
theorem dX8_may_127 : decode cX8_may 127 = .ok (.ireturn, 1) := by decide +kernel
theorem dX8_note_0 : decode cX8_note 0 = .ok (.iload_n 1, 1) := by decide +kernel
theorem dX8_note_1 : decode cX8_note 1 = .ok (.invokestatic 95, 3) := by decide +kernel
theorem dX8_note_4 : decode cX8_note 4 = .ok (.ifCond .eq 34, 3) := by decide +kernel
theorem dX8_note_7 : decode cX8_note 7 = .ok (.iload_n 2, 1) := by decide +kernel
theorem dX8_note_8 : decode cX8_note 8 = .ok (.iconst 1, 1) := by decide +kernel
theorem dX8_note_9 : decode cX8_note 9 = .ok (.bipush 12, 2) := by decide +kernel
theorem dX8_note_11 : decode cX8_note 11 = .ok (.invokestatic 64, 3) := by decide +kernel
theorem dX8_note_14 : decode cX8_note 14 = .ok (.ifCond .eq 24, 3) := by decide +kernel
theorem dX8_note_17 : decode cX8_note 17 = .ok (.iload_n 3, 1) := by decide +kernel
theorem dX8_note_18 : decode cX8_note 18 = .ok (.iconst 0, 1) := by decide +kernel
theorem dX8_note_19 : decode cX8_note 19 = .ok (.bipush 23, 2) := by decide +kernel
theorem dX8_note_21 : decode cX8_note 21 = .ok (.invokestatic 64, 3) := by decide +kernel
theorem dX8_note_24 : decode cX8_note 24 = .ok (.ifCond .eq 14, 3) := by decide +kernel
theorem dX8_note_27 : decode cX8_note 27 = .ok (.iload 4, 2) := by decide +kernel
theorem dX8_note_29 : decode cX8_note 29 = .ok (.iconst 0, 1) := by decide +kernel
theorem dX8_note_30 : decode cX8_note 30 = .ok (.bipush 9, 2) := by decide +kernel
theorem dX8_note_32 : decode cX8_note 32 = .ok (.invokestatic 64, 3) := by decide +kernel
theorem dX8_note_35 : decode cX8_note 35 = .ok (.ifCond .ne 10, 3) := by decide +kernel
theorem dX8_note_38 : decode cX8_note 38 = .ok (.aload_n 0, 1) := by decide +kernel
theorem dX8_note_39 : decode cX8_note 39 = .ok (.bipush (-2), 2) := by decide +kernel
theorem dX8_note_41 : decode cX8_note 41 = .ok (.invokevirtual 68, 3) := by decide +kernel
theorem dX8_note_44 : decode cX8_note 44 = .ok (.ireturn, 1) := by decide +kernel
theorem dX8_note_45 : decode cX8_note 45 = .ok (.aload_n 0, 1) := by decide +kernel
theorem dX8_note_46 : decode cX8_note 46 = .ok (.aload_n 0, 1) := by decide +kernel
theorem dX8_note_47 : decode cX8_note 47 = .ok (.getfield 10, 3) := by decide +kernel
theorem dX8_note_50 : decode cX8_note 50 = .ok (.getfield 211, 3) := by decide +kernel
theorem dX8_note_53 : decode cX8_note 53 = .ok (.iload_n 1, 1) := by decide +kernel
theorem dX8_note_54 : decode cX8_note 54 = .ok (.iload_n 2, 1) := by decide +kernel
theorem dX8_note_55 : decode cX8_note 55 = .ok (.iload_n 3, 1) := by decide +kernel
theorem dX8_note_56 : decode cX8_note 56 = .ok (.iload 4, 2) := by decide +kernel
theorem dX8_note_58 : decode cX8_note 58 = .ok (.invokevirtual 204, 3) := by decide +kernel
theorem dX8_note_61 : decode cX8_note 61 = .ok (.ireturn, 1) := by decide +kernel
theorem dX8_mark_0 : decode cX8_mark 0 = .ok (.aload_n 0, 1) := by decide +kernel
theorem dX8_mark_1 : decode cX8_mark 1 = .ok (.getfield 10, 3) := by decide +kernel
theorem dX8_mark_4 : decode cX8_mark 4 = .ok (.iload_n 1, 1) := by decide +kernel
theorem dX8_mark_5 : decode cX8_mark 5 = .ok (.invokevirtual 91, 3) := by decide +kernel
theorem dX8_mark_8 : decode cX8_mark 8 = .ok (.ifCond .eq 34, 3) := by decide +kernel
theorem dX8_mark_11 : decode cX8_mark 11 = .ok (.iload_n 2, 1) := by decide +kernel
theorem dX8_mark_12 : decode cX8_mark 12 = .ok (.iconst (-1), 1) := by decide +kernel
theorem dX8_mark_13 : decode cX8_mark 13 = .ok (.bipush 8, 2) := by decide +kernel
theorem dX8_mark_15 : decode cX8_mark 15 = .ok (.invokestatic 64, 3) := by decide +kernel
theorem dX8_mark_18 : decode cX8_mark 18 = .ok (.ifCond .eq 24, 3) := by decide +kernel
theorem dX8_mark_21 : decode cX8_mark 21 = .ok (.iload_n 3, 1) := by decide +kernel
theorem dX8_mark_22 : decode cX8_mark 22 = .ok (.iconst 0, 1) := by decide +kernel
theorem dX8_mark_23 : decode cX8_mark 23 = .ok (.bipush 23, 2) := by decide +kernel
theorem dX8_mark_25 : decode cX8_mark 25 = .ok (.invokestatic 64, 3) := by decide +kernel
theorem dX8_mark_28 : decode cX8_mark 28 = .ok (.ifCond .eq 14, 3) := by decide +kernel
theorem dX8_mark_31 : decode cX8_mark 31 = .ok (.iload 4, 2) := by decide +kernel
theorem dX8_mark_33 : decode cX8_mark 33 = .ok (.iconst 0, 1) := by decide +kernel
theorem dX8_mark_34 : decode cX8_mark 34 = .ok (.bipush 9, 2) := by decide +kernel
theorem dX8_mark_36 : decode cX8_mark 36 = .ok (.invokestatic 64, 3) := by decide +kernel
theorem dX8_mark_39 : decode cX8_mark 39 = .ok (.ifCond .ne 10, 3) := by decide +kernel
theorem dX8_mark_42 : decode cX8_mark 42 = .ok (.aload_n 0, 1) := by decide +kernel
theorem dX8_mark_43 : decode cX8_mark 43 = .ok (.bipush (-2), 2) := by decide +kernel
theorem dX8_mark_45 : decode cX8_mark 45 = .ok (.invokevirtual 68, 3) := by decide +kernel
theorem dX8_mark_48 : decode cX8_mark 48 = .ok (.ireturn, 1) := by decide +kernel
theorem dX8_mark_49 : decode cX8_mark 49 = .ok (.aload_n 0, 1) := by decide +kernel
theorem dX8_mark_50 : decode cX8_mark 50 = .ok (.aload_n 0, 1) := by decide +kernel
theorem dX8_mark_51 : decode cX8_mark 51 = .ok (.getfield 10, 3) := by decide +kernel
theorem dX8_mark_54 : decode cX8_mark 54 = .ok (.getfield 214, 3) := by decide +kernel
theorem dX8_mark_57 : decode cX8_mark 57 = .ok (.iload_n 1, 1) := by decide +kernel
theorem dX8_mark_58 : decode cX8_mark 58 = .ok (.iload_n 2, 1) := by decide +kernel
theorem dX8_mark_59 : decode cX8_mark 59 = .ok (.iload_n 3, 1) := by decide +kernel
theorem dX8_mark_60 : decode cX8_mark 60 = .ok (.iload 4, 2) := by decide +kernel
theorem dX8_mark_62 : decode cX8_mark 62 = .ok (.invokevirtual 204, 3) := by decide +kernel
theorem dX8_mark_65 : decode cX8_mark 65 = .ok (.ireturn, 1) := by decide +kernel
theorem dX8_forget_0 : decode cX8_forget 0 = .ok (.iload_n 1, 1) := by decide +kernel
theorem dX8_forget_1 : decode cX8_forget 1 = .ok (.tableswitch 60 0 2 #[27, 38, 49], 27) := by decide +kernel
theorem dX8_forget_28 : decode cX8_forget 28 = .ok (.aload_n 0, 1) := by decide +kernel
theorem dX8_forget_29 : decode cX8_forget 29 = .ok (.getfield 10, 3) := by decide +kernel
theorem dX8_forget_32 : decode cX8_forget 32 = .ok (.getfield 200, 3) := by decide +kernel
theorem dX8_forget_35 : decode cX8_forget 35 = .ok (.invokevirtual 217, 3) := by decide +kernel
theorem dX8_forget_38 : decode cX8_forget 38 = .ok (.ireturn, 1) := by decide +kernel
theorem dX8_forget_39 : decode cX8_forget 39 = .ok (.aload_n 0, 1) := by decide +kernel
theorem dX8_forget_40 : decode cX8_forget 40 = .ok (.getfield 10, 3) := by decide +kernel
theorem dX8_forget_43 : decode cX8_forget 43 = .ok (.getfield 211, 3) := by decide +kernel
theorem dX8_forget_46 : decode cX8_forget 46 = .ok (.invokevirtual 217, 3) := by decide +kernel
theorem dX8_forget_49 : decode cX8_forget 49 = .ok (.ireturn, 1) := by decide +kernel
theorem dX8_forget_50 : decode cX8_forget 50 = .ok (.aload_n 0, 1) := by decide +kernel
theorem dX8_forget_51 : decode cX8_forget 51 = .ok (.getfield 10, 3) := by decide +kernel
theorem dX8_forget_54 : decode cX8_forget 54 = .ok (.getfield 214, 3) := by decide +kernel
theorem dX8_forget_57 : decode cX8_forget 57 = .ok (.invokevirtual 217, 3) := by decide +kernel
theorem dX8_forget_60 : decode cX8_forget 60 = .ok (.ireturn, 1) := by decide +kernel
theorem dX8_forget_61 : decode cX8_forget 61 = .ok (.aload_n 0, 1) := by decide +kernel
theorem dX8_forget_62 : decode cX8_forget 62 = .ok (.bipush (-2), 2) := by decide +kernel
theorem dX8_forget_64 : decode cX8_forget 64 = .ok (.invokevirtual 68, 3) := by decide +kernel
theorem dX8_forget_67 : decode cX8_forget 67 = .ok (.ireturn, 1) := by decide +kernel
theorem dX8_is_0 : decode cX8_is 0 = .ok (.iload_n 1, 1) := by decide +kernel
theorem dX8_is_1 : decode cX8_is 1 = .ok (.invokestatic 95, 3) := by decide +kernel
theorem dX8_is_4 : decode cX8_is 4 = .ok (.ifCond .ne 10, 3) := by decide +kernel
theorem dX8_is_7 : decode cX8_is 7 = .ok (.aload_n 0, 1) := by decide +kernel
theorem dX8_is_8 : decode cX8_is 8 = .ok (.bipush (-2), 2) := by decide +kernel
theorem dX8_is_10 : decode cX8_is 10 = .ok (.invokevirtual 68, 3) := by decide +kernel
theorem dX8_is_13 : decode cX8_is 13 = .ok (.ireturn, 1) := by decide +kernel
theorem dX8_is_14 : decode cX8_is 14 = .ok (.aload_n 0, 1) := by decide +kernel
theorem dX8_is_15 : decode cX8_is 15 = .ok (.getfield 10, 3) := by decide +kernel
theorem dX8_is_18 : decode cX8_is 18 = .ok (.getfield 222, 3) := by decide +kernel
theorem dX8_is_21 : decode cX8_is 21 = .ok (.aload_n 0, 1) := by decide +kernel
theorem dX8_is_22 : decode cX8_is 22 = .ok (.getfield 10, 3) := by decide +kernel
theorem dX8_is_25 : decode cX8_is 25 = .ok (.getfield 211, 3) := by decide +kernel
theorem dX8_is_28 : decode cX8_is 28 = .ok (.iload_n 1, 1) := by decide +kernel
theorem dX8_is_29 : decode cX8_is 29 = .ok (.invokevirtual 226, 3) := by decide +kernel
theorem dX8_is_32 : decode cX8_is 32 = .ok (.ireturn, 1) := by decide +kernel
theorem dX8_look_0 : decode cX8_look 0 = .ok (.iload_n 1, 1) := by decide +kernel
theorem dX8_look_1 : decode cX8_look 1 = .ok (.invokestatic 95, 3) := by decide +kernel
theorem dX8_look_4 : decode cX8_look 4 = .ok (.ifCond .ne 10, 3) := by decide +kernel
theorem dX8_look_7 : decode cX8_look 7 = .ok (.aload_n 0, 1) := by decide +kernel
theorem dX8_look_8 : decode cX8_look 8 = .ok (.bipush (-2), 2) := by decide +kernel
theorem dX8_look_10 : decode cX8_look 10 = .ok (.invokevirtual 68, 3) := by decide +kernel
theorem dX8_look_13 : decode cX8_look 13 = .ok (.ireturn, 1) := by decide +kernel
theorem dX8_look_14 : decode cX8_look 14 = .ok (.aload_n 0, 1) := by decide +kernel
theorem dX8_look_15 : decode cX8_look 15 = .ok (.getfield 10, 3) := by decide +kernel
theorem dX8_look_18 : decode cX8_look 18 = .ok (.getfield 222, 3) := by decide +kernel
theorem dX8_look_21 : decode cX8_look 21 = .ok (.aload_n 0, 1) := by decide +kernel
theorem dX8_look_22 : decode cX8_look 22 = .ok (.getfield 10, 3) := by decide +kernel
theorem dX8_look_25 : decode cX8_look 25 = .ok (.getfield 211, 3) := by decide +kernel
theorem dX8_look_28 : decode cX8_look 28 = .ok (.iload_n 1, 1) := by decide +kernel
theorem dX8_look_29 : decode cX8_look 29 = .ok (.invokevirtual 232, 3) := by decide +kernel
theorem dX8_look_32 : decode cX8_look 32 = .ok (.ireturn, 1) := by decide +kernel
theorem dX8_kinds_0 : decode cX8_kinds 0 = .ok (.aload_n 0, 1) := by decide +kernel
theorem dX8_kinds_1 : decode cX8_kinds 1 = .ok (.getfield 10, 3) := by decide +kernel
theorem dX8_kinds_4 : decode cX8_kinds 4 = .ok (.iload_n 1, 1) := by decide +kernel
theorem dX8_kinds_5 : decode cX8_kinds 5 = .ok (.invokevirtual 91, 3) := by decide +kernel
theorem dX8_kinds_8 : decode cX8_kinds 8 = .ok (.ifCond .ne 10, 3) := by decide +kernel
theorem dX8_kinds_11 : decode cX8_kinds 11 = .ok (.aload_n 0, 1) := by decide +kernel
theorem dX8_kinds_12 : decode cX8_kinds 12 = .ok (.bipush (-2), 2) := by decide +kernel
theorem dX8_kinds_14 : decode cX8_kinds 14 = .ok (.invokevirtual 68, 3) := by decide +kernel
theorem dX8_kinds_17 : decode cX8_kinds 17 = .ok (.ireturn, 1) := by decide +kernel
theorem dX8_kinds_18 : decode cX8_kinds 18 = .ok (.aload_n 0, 1) := by decide +kernel
theorem dX8_kinds_19 : decode cX8_kinds 19 = .ok (.getfield 10, 3) := by decide +kernel
theorem dX8_kinds_22 : decode cX8_kinds 22 = .ok (.getfield 235, 3) := by decide +kernel
theorem dX8_kinds_25 : decode cX8_kinds 25 = .ok (.aload_n 0, 1) := by decide +kernel
theorem dX8_kinds_26 : decode cX8_kinds 26 = .ok (.getfield 10, 3) := by decide +kernel
theorem dX8_kinds_29 : decode cX8_kinds 29 = .ok (.getfield 214, 3) := by decide +kernel
theorem dX8_kinds_32 : decode cX8_kinds 32 = .ok (.iload_n 1, 1) := by decide +kernel
theorem dX8_kinds_33 : decode cX8_kinds 33 = .ok (.invokevirtual 239, 3) := by decide +kernel
theorem dX8_kinds_36 : decode cX8_kinds 36 = .ok (.ireturn, 1) := by decide +kernel
theorem dX8_ask_0 : decode cX8_ask 0 = .ok (.aload_n 0, 1) := by decide +kernel
theorem dX8_ask_1 : decode cX8_ask 1 = .ok (.getfield 10, 3) := by decide +kernel
theorem dX8_ask_4 : decode cX8_ask 4 = .ok (.iload_n 1, 1) := by decide +kernel
theorem dX8_ask_5 : decode cX8_ask 5 = .ok (.invokevirtual 91, 3) := by decide +kernel
theorem dX8_ask_8 : decode cX8_ask 8 = .ok (.ifCond .ne 10, 3) := by decide +kernel
theorem dX8_ask_11 : decode cX8_ask 11 = .ok (.aload_n 0, 1) := by decide +kernel
theorem dX8_ask_12 : decode cX8_ask 12 = .ok (.bipush (-2), 2) := by decide +kernel
theorem dX8_ask_14 : decode cX8_ask 14 = .ok (.invokevirtual 68, 3) := by decide +kernel
theorem dX8_ask_17 : decode cX8_ask 17 = .ok (.ireturn, 1) := by decide +kernel
theorem dX8_ask_18 : decode cX8_ask 18 = .ok (.aload_n 0, 1) := by decide +kernel
theorem dX8_ask_19 : decode cX8_ask 19 = .ok (.getfield 10, 3) := by decide +kernel
theorem dX8_ask_22 : decode cX8_ask 22 = .ok (.getfield 235, 3) := by decide +kernel
theorem dX8_ask_25 : decode cX8_ask 25 = .ok (.aload_n 0, 1) := by decide +kernel
theorem dX8_ask_26 : decode cX8_ask 26 = .ok (.getfield 10, 3) := by decide +kernel
theorem dX8_ask_29 : decode cX8_ask 29 = .ok (.getfield 214, 3) := by decide +kernel
theorem dX8_ask_32 : decode cX8_ask 32 = .ok (.iload_n 1, 1) := by decide +kernel
theorem dX8_ask_33 : decode cX8_ask 33 = .ok (.invokevirtual 242, 3) := by decide +kernel
theorem dX8_ask_36 : decode cX8_ask 36 = .ok (.ireturn, 1) := by decide +kernel
theorem dX8_hosts_0 : decode cX8_hosts 0 = .ok (.aload_n 0, 1) := by decide +kernel
theorem dX8_hosts_1 : decode cX8_hosts 1 = .ok (.getfield 10, 3) := by decide +kernel
theorem dX8_hosts_4 : decode cX8_hosts 4 = .ok (.iload_n 1, 1) := by decide +kernel
theorem dX8_hosts_5 : decode cX8_hosts 5 = .ok (.invokevirtual 91, 3) := by decide +kernel
theorem dX8_hosts_8 : decode cX8_hosts 8 = .ok (.ifCond .eq 33, 3) := by decide +kernel
theorem dX8_hosts_11 : decode cX8_hosts 11 = .ok (.aload_n 0, 1) := by decide +kernel
theorem dX8_hosts_12 : decode cX8_hosts 12 = .ok (.getfield 10, 3) := by decide +kernel
theorem dX8_hosts_15 : decode cX8_hosts 15 = .ok (.iload_n 2, 1) := by decide +kernel
theorem dX8_hosts_16 : decode cX8_hosts 16 = .ok (.invokevirtual 91, 3) := by decide +kernel
theorem dX8_hosts_19 : decode cX8_hosts 19 = .ok (.ifCond .eq 22, 3) := by decide +kernel
theorem dX8_hosts_22 : decode cX8_hosts 22 = .ok (.aload_n 0, 1) := by decide +kernel
theorem dX8_hosts_23 : decode cX8_hosts 23 = .ok (.getfield 10, 3) := by decide +kernel
theorem dX8_hosts_26 : decode cX8_hosts 26 = .ok (.iload_n 3, 1) := by decide +kernel
theorem dX8_hosts_27 : decode cX8_hosts 27 = .ok (.invokevirtual 91, 3) := by decide +kernel
theorem dX8_hosts_30 : decode cX8_hosts 30 = .ok (.ifCond .eq 11, 3) := by decide +kernel
theorem dX8_hosts_33 : decode cX8_hosts 33 = .ok (.iload 4, 2) := by decide +kernel
theorem dX8_hosts_35 : decode cX8_hosts 35 = .ok (.invokestatic 95, 3) := by decide +kernel
theorem dX8_hosts_38 : decode cX8_hosts 38 = .ok (.ifCond .ne 10, 3) := by decide +kernel
theorem dX8_hosts_41 : decode cX8_hosts 41 = .ok (.aload_n 0, 1) := by decide +kernel
theorem dX8_hosts_42 : decode cX8_hosts 42 = .ok (.bipush (-2), 2) := by decide +kernel
theorem dX8_hosts_44 : decode cX8_hosts 44 = .ok (.invokevirtual 68, 3) := by decide +kernel
theorem dX8_hosts_47 : decode cX8_hosts 47 = .ok (.ireturn, 1) := by decide +kernel
theorem dX8_hosts_48 : decode cX8_hosts 48 = .ok (.iload_n 1, 1) := by decide +kernel
theorem dX8_hosts_49 : decode cX8_hosts 49 = .ok (.iload_n 2, 1) := by decide +kernel
theorem dX8_hosts_50 : decode cX8_hosts 50 = .ok (.if_icmp .eq 13, 3) := by decide +kernel
theorem dX8_hosts_53 : decode cX8_hosts 53 = .ok (.iload_n 1, 1) := by decide +kernel
theorem dX8_hosts_54 : decode cX8_hosts 54 = .ok (.iload_n 3, 1) := by decide +kernel
theorem dX8_hosts_55 : decode cX8_hosts 55 = .ok (.if_icmp .eq 8, 3) := by decide +kernel
theorem dX8_hosts_58 : decode cX8_hosts 58 = .ok (.iload_n 2, 1) := by decide +kernel
theorem dX8_hosts_59 : decode cX8_hosts 59 = .ok (.iload_n 3, 1) := by decide +kernel
theorem dX8_hosts_60 : decode cX8_hosts 60 = .ok (.if_icmp .ne 10, 3) := by decide +kernel
theorem dX8_hosts_63 : decode cX8_hosts 63 = .ok (.aload_n 0, 1) := by decide +kernel
theorem dX8_hosts_64 : decode cX8_hosts 64 = .ok (.bipush (-2), 2) := by decide +kernel
theorem dX8_hosts_66 : decode cX8_hosts 66 = .ok (.invokevirtual 68, 3) := by decide +kernel
theorem dX8_hosts_69 : decode cX8_hosts 69 = .ok (.ireturn, 1) := by decide +kernel
theorem dX8_hosts_70 : decode cX8_hosts 70 = .ok (.aload_n 0, 1) := by decide +kernel
theorem dX8_hosts_71 : decode cX8_hosts 71 = .ok (.getfield 10, 3) := by decide +kernel
theorem dX8_hosts_74 : decode cX8_hosts 74 = .ok (.getfield 98, 3) := by decide +kernel
theorem dX8_hosts_77 : decode cX8_hosts 77 = .ok (.iload_n 1, 1) := by decide +kernel
theorem dX8_hosts_78 : decode cX8_hosts 78 = .ok (.iload 4, 2) := by decide +kernel
theorem dX8_hosts_80 : decode cX8_hosts 80 = .ok (.invokevirtual 102, 3) := by decide +kernel
theorem dX8_hosts_83 : decode cX8_hosts 83 = .ok (.ifCond .eq 19, 3) := by decide +kernel
theorem dX8_hosts_86 : decode cX8_hosts 86 = .ok (.aload_n 0, 1) := by decide +kernel
theorem dX8_hosts_87 : decode cX8_hosts 87 = .ok (.getfield 10, 3) := by decide +kernel
theorem dX8_hosts_90 : decode cX8_hosts 90 = .ok (.getfield 98, 3) := by decide +kernel
theorem dX8_hosts_93 : decode cX8_hosts 93 = .ok (.iload_n 2, 1) := by decide +kernel
theorem dX8_hosts_94 : decode cX8_hosts 94 = .ok (.iload 4, 2) := by decide +kernel
theorem dX8_hosts_96 : decode cX8_hosts 96 = .ok (.invokevirtual 102, 3) := by decide +kernel
theorem dX8_hosts_99 : decode cX8_hosts 99 = .ok (.ifCond .ne 10, 3) := by decide +kernel
theorem dX8_hosts_102 : decode cX8_hosts 102 = .ok (.aload_n 0, 1) := by decide +kernel
theorem dX8_hosts_103 : decode cX8_hosts 103 = .ok (.bipush (-3), 2) := by decide +kernel
theorem dX8_hosts_105 : decode cX8_hosts 105 = .ok (.invokevirtual 68, 3) := by decide +kernel
theorem dX8_hosts_108 : decode cX8_hosts 108 = .ok (.ireturn, 1) := by decide +kernel
theorem dX8_hosts_109 : decode cX8_hosts 109 = .ok (.aload_n 0, 1) := by decide +kernel
theorem dX8_hosts_110 : decode cX8_hosts 110 = .ok (.getfield 10, 3) := by decide +kernel
theorem dX8_hosts_113 : decode cX8_hosts 113 = .ok (.iload_n 1, 1) := by decide +kernel
theorem dX8_hosts_114 : decode cX8_hosts 114 = .ok (.iload_n 2, 1) := by decide +kernel
theorem dX8_hosts_115 : decode cX8_hosts 115 = .ok (.iload_n 3, 1) := by decide +kernel
theorem dX8_hosts_116 : decode cX8_hosts 116 = .ok (.iload 4, 2) := by decide +kernel
theorem dX8_hosts_118 : decode cX8_hosts 118 = .ok (.invokevirtual 243, 3) := by decide +kernel
theorem dX8_hosts_121 : decode cX8_hosts 121 = .ok (.ireturn, 1) := by decide +kernel
theorem dX8_slips_0 : decode cX8_slips 0 = .ok (.aload_n 0, 1) := by decide +kernel
theorem dX8_slips_1 : decode cX8_slips 1 = .ok (.getfield 10, 3) := by decide +kernel
theorem dX8_slips_4 : decode cX8_slips 4 = .ok (.iload_n 1, 1) := by decide +kernel
theorem dX8_slips_5 : decode cX8_slips 5 = .ok (.invokevirtual 91, 3) := by decide +kernel
theorem dX8_slips_8 : decode cX8_slips 8 = .ok (.ifCond .eq 20, 3) := by decide +kernel
theorem dX8_slips_11 : decode cX8_slips 11 = .ok (.iload_n 2, 1) := by decide +kernel
theorem dX8_slips_12 : decode cX8_slips 12 = .ok (.invokestatic 95, 3) := by decide +kernel
theorem dX8_slips_15 : decode cX8_slips 15 = .ok (.ifCond .eq 13, 3) := by decide +kernel
theorem dX8_slips_18 : decode cX8_slips 18 = .ok (.iload_n 3, 1) := by decide +kernel
theorem dX8_slips_19 : decode cX8_slips 19 = .ok (.iconst 0, 1) := by decide +kernel
theorem dX8_slips_20 : decode cX8_slips 20 = .ok (.bipush 10, 2) := by decide +kernel
theorem dX8_slips_22 : decode cX8_slips 22 = .ok (.invokestatic 64, 3) := by decide +kernel
theorem dX8_slips_25 : decode cX8_slips 25 = .ok (.ifCond .ne 10, 3) := by decide +kernel
theorem dX8_slips_28 : decode cX8_slips 28 = .ok (.aload_n 0, 1) := by decide +kernel
theorem dX8_slips_29 : decode cX8_slips 29 = .ok (.bipush (-2), 2) := by decide +kernel
theorem dX8_slips_31 : decode cX8_slips 31 = .ok (.invokevirtual 68, 3) := by decide +kernel
theorem dX8_slips_34 : decode cX8_slips 34 = .ok (.ireturn, 1) := by decide +kernel
theorem dX8_slips_35 : decode cX8_slips 35 = .ok (.aload_n 0, 1) := by decide +kernel
theorem dX8_slips_36 : decode cX8_slips 36 = .ok (.getfield 10, 3) := by decide +kernel
theorem dX8_slips_39 : decode cX8_slips 39 = .ok (.iload_n 1, 1) := by decide +kernel
theorem dX8_slips_40 : decode cX8_slips 40 = .ok (.iload_n 2, 1) := by decide +kernel
theorem dX8_slips_41 : decode cX8_slips 41 = .ok (.invokevirtual 169, 3) := by decide +kernel
theorem dX8_slips_44 : decode cX8_slips 44 = .ok (.istore 4, 2) := by decide +kernel
theorem dX8_slips_46 : decode cX8_slips 46 = .ok (.lconst 0, 1) := by decide +kernel
theorem dX8_slips_47 : decode cX8_slips 47 = .ok (.lstore 5, 2) := by decide +kernel
theorem dX8_slips_49 : decode cX8_slips 49 = .ok (.lconst 0, 1) := by decide +kernel
theorem dX8_slips_50 : decode cX8_slips 50 = .ok (.lstore 7, 2) := by decide +kernel
theorem dX8_slips_52 : decode cX8_slips 52 = .ok (.iconst 0, 1) := by decide +kernel
theorem dX8_slips_53 : decode cX8_slips 53 = .ok (.istore 9, 2) := by decide +kernel
theorem dX8_slips_55 : decode cX8_slips 55 = .ok (.iload 9, 2) := by decide +kernel
theorem dX8_slips_57 : decode cX8_slips 57 = .ok (.bipush 64, 2) := by decide +kernel
theorem dX8_slips_59 : decode cX8_slips 59 = .ok (.if_icmp .ge 71, 3) := by decide +kernel
theorem dX8_slips_62 : decode cX8_slips 62 = .ok (.iload 9, 2) := by decide +kernel
theorem dX8_slips_64 : decode cX8_slips 64 = .ok (.iload 4, 2) := by decide +kernel
theorem dX8_slips_66 : decode cX8_slips 66 = .ok (.iand, 1) := by decide +kernel
theorem dX8_slips_67 : decode cX8_slips 67 = .ok (.iload 9, 2) := by decide +kernel
theorem dX8_slips_69 : decode cX8_slips 69 = .ok (.if_icmp .ne 55, 3) := by decide +kernel
theorem dX8_slips_72 : decode cX8_slips 72 = .ok (.iload 4, 2) := by decide +kernel
theorem dX8_slips_74 : decode cX8_slips 74 = .ok (.iload 9, 2) := by decide +kernel
theorem dX8_slips_76 : decode cX8_slips 76 = .ok (.iload_n 3, 1) := by decide +kernel
theorem dX8_slips_77 : decode cX8_slips 77 = .ok (.invokestatic 247, 3) := by decide +kernel
theorem dX8_slips_80 : decode cX8_slips 80 = .ok (.lstore 10, 2) := by decide +kernel
theorem dX8_slips_82 : decode cX8_slips 82 = .ok (.lload 7, 2) := by decide +kernel
theorem dX8_slips_84 : decode cX8_slips 84 = .ok (.lload 10, 2) := by decide +kernel
theorem dX8_slips_86 : decode cX8_slips 86 = .ok (.ladd, 1) := by decide +kernel
theorem dX8_slips_87 : decode cX8_slips 87 = .ok (.lstore 7, 2) := by decide +kernel
theorem dX8_slips_89 : decode cX8_slips 89 = .ok (.lload 5, 2) := by decide +kernel
theorem dX8_slips_91 : decode cX8_slips 91 = .ok (.aload_n 0, 1) := by decide +kernel
theorem dX8_slips_92 : decode cX8_slips 92 = .ok (.getfield 10, 3) := by decide +kernel
theorem dX8_slips_95 : decode cX8_slips 95 = .ok (.iload_n 1, 1) := by decide +kernel
theorem dX8_slips_96 : decode cX8_slips 96 = .ok (.iload_n 2, 1) := by decide +kernel
theorem dX8_slips_97 : decode cX8_slips 97 = .ok (.iload 9, 2) := by decide +kernel
theorem dX8_slips_99 : decode cX8_slips 99 = .ok (.aload_n 0, 1) := by decide +kernel
theorem dX8_slips_100 : decode cX8_slips 100 = .ok (.getfield 10, 3) := by decide +kernel
theorem dX8_slips_103 : decode cX8_slips 103 = .ok (.getfield 98, 3) := by decide +kernel
theorem dX8_slips_106 : decode cX8_slips 106 = .ok (.getfield 108, 3) := by decide +kernel
theorem dX8_slips_109 : decode cX8_slips 109 = .ok (.invokevirtual 180, 3) := by decide +kernel
theorem dX8_slips_112 : decode cX8_slips 112 = .ok (.ifCond .eq 8, 3) := by decide +kernel
theorem dX8_slips_115 : decode cX8_slips 115 = .ok (.lload 10, 2) := by decide +kernel
theorem dX8_slips_117 : decode cX8_slips 117 = .ok (.goto 4, 3) := by decide +kernel
theorem dX8_slips_120 : decode cX8_slips 120 = .ok (.lconst 0, 1) := by decide +kernel
theorem dX8_slips_121 : decode cX8_slips 121 = .ok (.ladd, 1) := by decide +kernel
theorem dX8_slips_122 : decode cX8_slips 122 = .ok (.lstore 5, 2) := by decide +kernel
theorem dX8_slips_124 : decode cX8_slips 124 = .ok (.iinc 9 1, 3) := by decide +kernel
theorem dX8_slips_127 : decode cX8_slips 127 = .ok (.goto (-72), 3) := by decide +kernel
theorem dX8_slips_130 : decode cX8_slips 130 = .ok (.aload_n 0, 1) := by decide +kernel
theorem dX8_slips_131 : decode cX8_slips 131 = .ok (.lload 5, 2) := by decide +kernel
theorem dX8_slips_133 : decode cX8_slips 133 = .ok (.lload 7, 2) := by decide +kernel
theorem dX8_slips_135 : decode cX8_slips 135 = .ok (.invokevirtual 251, 3) := by decide +kernel
theorem dX8_slips_138 : decode cX8_slips 138 = .ok (.iconst 1, 1) := by decide +kernel
theorem dX8_slips_139 : decode cX8_slips 139 = .ok (.ireturn, 1) := by decide +kernel
theorem dX8_evenings_0 : decode cX8_evenings 0 = .ok (.iload_n 1, 1) := by decide +kernel
theorem dX8_evenings_1 : decode cX8_evenings 1 = .ok (.iconst 0, 1) := by decide +kernel
theorem dX8_evenings_2 : decode cX8_evenings 2 = .ok (.ldc 255, 2) := by decide +kernel
theorem dX8_evenings_4 : decode cX8_evenings 4 = .ok (.invokestatic 64, 3) := by decide +kernel
theorem dX8_evenings_7 : decode cX8_evenings 7 = .ok (.ifCond .eq 13, 3) := by decide +kernel
theorem dX8_evenings_10 : decode cX8_evenings 10 = .ok (.iload_n 2, 1) := by decide +kernel
theorem dX8_evenings_11 : decode cX8_evenings 11 = .ok (.iconst 0, 1) := by decide +kernel
theorem dX8_evenings_12 : decode cX8_evenings 12 = .ok (.bipush 60, 2) := by decide +kernel
theorem dX8_evenings_14 : decode cX8_evenings 14 = .ok (.invokestatic 64, 3) := by decide +kernel
theorem dX8_evenings_17 : decode cX8_evenings 17 = .ok (.ifCond .ne 10, 3) := by decide +kernel
theorem dX8_evenings_20 : decode cX8_evenings 20 = .ok (.aload_n 0, 1) := by decide +kernel
theorem dX8_evenings_21 : decode cX8_evenings 21 = .ok (.bipush (-2), 2) := by decide +kernel
theorem dX8_evenings_23 : decode cX8_evenings 23 = .ok (.invokevirtual 68, 3) := by decide +kernel
theorem dX8_evenings_26 : decode cX8_evenings 26 = .ok (.ireturn, 1) := by decide +kernel
theorem dX8_evenings_27 : decode cX8_evenings 27 = .ok (.aload_n 0, 1) := by decide +kernel
theorem dX8_evenings_28 : decode cX8_evenings 28 = .ok (.getfield 16, 3) := by decide +kernel
theorem dX8_evenings_31 : decode cX8_evenings 31 = .ok (.aload_n 0, 1) := by decide +kernel
theorem dX8_evenings_32 : decode cX8_evenings 32 = .ok (.getfield 10, 3) := by decide +kernel
theorem dX8_evenings_35 : decode cX8_evenings 35 = .ok (.invokevirtual 256, 3) := by decide +kernel
theorem dX8_evenings_38 : decode cX8_evenings 38 = .ok (.iload_n 1, 1) := by decide +kernel
theorem dX8_evenings_39 : decode cX8_evenings 39 = .ok (.i2l, 1) := by decide +kernel
theorem dX8_evenings_40 : decode cX8_evenings 40 = .ok (.lstore_n 3, 1) := by decide +kernel
theorem dX8_evenings_41 : decode cX8_evenings 41 = .ok (.iconst 0, 1) := by decide +kernel
theorem dX8_evenings_42 : decode cX8_evenings 42 = .ok (.istore 5, 2) := by decide +kernel
theorem dX8_evenings_44 : decode cX8_evenings 44 = .ok (.iload 5, 2) := by decide +kernel
theorem dX8_evenings_46 : decode cX8_evenings 46 = .ok (.iload_n 2, 1) := by decide +kernel
theorem dX8_evenings_47 : decode cX8_evenings 47 = .ok (.if_icmp .ge 79, 3) := by decide +kernel
theorem dX8_evenings_50 : decode cX8_evenings 50 = .ok (.lload_n 3, 1) := by decide +kernel
theorem dX8_evenings_51 : decode cX8_evenings 51 = .ok (.ldc2_w 259, 3) := by decide +kernel
theorem dX8_evenings_54 : decode cX8_evenings 54 = .ok (.lmul, 1) := by decide +kernel
theorem dX8_evenings_55 : decode cX8_evenings 55 = .ok (.ldc2_w 261, 3) := by decide +kernel
theorem dX8_evenings_58 : decode cX8_evenings 58 = .ok (.ladd, 1) := by decide +kernel
theorem dX8_evenings_59 : decode cX8_evenings 59 = .ok (.ldc2_w 263, 3) := by decide +kernel
theorem dX8_evenings_62 : decode cX8_evenings 62 = .ok (.lrem, 1) := by decide +kernel
theorem dX8_evenings_63 : decode cX8_evenings 63 = .ok (.lstore_n 3, 1) := by decide +kernel
theorem dX8_evenings_64 : decode cX8_evenings 64 = .ok (.lload_n 3, 1) := by decide +kernel
theorem dX8_evenings_65 : decode cX8_evenings 65 = .ok (.ldc2_w 265, 3) := by decide +kernel
theorem dX8_evenings_68 : decode cX8_evenings 68 = .ok (.ldiv, 1) := by decide +kernel
theorem dX8_evenings_69 : decode cX8_evenings 69 = .ok (.ldc2_w 267, 3) := by decide +kernel
theorem dX8_evenings_72 : decode cX8_evenings 72 = .ok (.lrem, 1) := by decide +kernel
theorem dX8_evenings_73 : decode cX8_evenings 73 = .ok (.l2i, 1) := by decide +kernel
theorem dX8_evenings_74 : decode cX8_evenings 74 = .ok (.istore 6, 2) := by decide +kernel
theorem dX8_evenings_76 : decode cX8_evenings 76 = .ok (.aload_n 0, 1) := by decide +kernel
theorem dX8_evenings_77 : decode cX8_evenings 77 = .ok (.getfield 16, 3) := by decide +kernel
theorem dX8_evenings_80 : decode cX8_evenings 80 = .ok (.iload 6, 2) := by decide +kernel
theorem dX8_evenings_82 : decode cX8_evenings 82 = .ok (.invokevirtual 91, 3) := by decide +kernel
theorem dX8_evenings_85 : decode cX8_evenings 85 = .ok (.ifCond .eq 25, 3) := by decide +kernel
theorem dX8_evenings_88 : decode cX8_evenings 88 = .ok (.aload_n 0, 1) := by decide +kernel
theorem dX8_evenings_89 : decode cX8_evenings 89 = .ok (.getfield 16, 3) := by decide +kernel
theorem dX8_evenings_92 : decode cX8_evenings 92 = .ok (.iload 6, 2) := by decide +kernel
theorem dX8_evenings_94 : decode cX8_evenings 94 = .ok (.lload_n 3, 1) := by decide +kernel
theorem dX8_evenings_95 : decode cX8_evenings 95 = .ok (.ldc2_w 269, 3) := by decide +kernel
theorem dX8_evenings_98 : decode cX8_evenings 98 = .ok (.ldiv, 1) := by decide +kernel
theorem dX8_evenings_99 : decode cX8_evenings 99 = .ok (.ldc2_w 271, 3) := by decide +kernel
theorem dX8_evenings_102 : decode cX8_evenings 102 = .ok (.lrem, 1) := by decide +kernel
theorem dX8_evenings_103 : decode cX8_evenings 103 = .ok (.l2i, 1) := by decide +kernel
theorem dX8_evenings_104 : decode cX8_evenings 104 = .ok (.invokevirtual 114, 3) := by decide +kernel
theorem dX8_evenings_107 : decode cX8_evenings 107 = .ok (.goto 13, 3) := by decide +kernel
theorem dX8_evenings_110 : decode cX8_evenings 110 = .ok (.aload_n 0, 1) := by decide +kernel
theorem dX8_evenings_111 : decode cX8_evenings 111 = .ok (.getfield 16, 3) := by decide +kernel
theorem dX8_evenings_114 : decode cX8_evenings 114 = .ok (.getfield 98, 3) := by decide +kernel
theorem dX8_evenings_117 : decode cX8_evenings 117 = .ok (.invokevirtual 128, 3) := by decide +kernel
theorem dX8_evenings_120 : decode cX8_evenings 120 = .ok (.iinc 5 1, 3) := by decide +kernel
theorem dX8_evenings_123 : decode cX8_evenings 123 = .ok (.goto (-79), 3) := by decide +kernel
theorem dX8_evenings_126 : decode cX8_evenings 126 = .ok (.aload_n 0, 1) := by decide +kernel
theorem dX8_evenings_127 : decode cX8_evenings 127 = .ok (.getfield 16, 3) := by decide +kernel
theorem dX8_evenings_130 : decode cX8_evenings 130 = .ok (.getfield 98, 3) := by decide +kernel
theorem dX8_evenings_133 : decode cX8_evenings 133 = .ok (.invokevirtual 134, 3) := by decide +kernel
theorem dX8_evenings_136 : decode cX8_evenings 136 = .ok (.ireturn, 1) := by decide +kernel
theorem dX8_part_0 : decode cX8_part 0 = .ok (.iload_n 1, 1) := by decide +kernel
theorem dX8_part_1 : decode cX8_part 1 = .ok (.lookupswitch 37 #[(0, 27), (1, 32)], 27) := by decide +kernel
theorem dX8_part_28 : decode cX8_part 28 = .ok (.aload_n 0, 1) := by decide +kernel
theorem dX8_part_29 : decode cX8_part 29 = .ok (.getfield 41, 3) := by decide +kernel
theorem dX8_part_32 : decode cX8_part 32 = .ok (.lreturn, 1) := by decide +kernel
theorem dX8_part_33 : decode cX8_part 33 = .ok (.aload_n 0, 1) := by decide +kernel
theorem dX8_part_34 : decode cX8_part 34 = .ok (.getfield 45, 3) := by decide +kernel
theorem dX8_part_37 : decode cX8_part 37 = .ok (.lreturn, 1) := by decide +kernel
theorem dX8_part_38 : decode cX8_part 38 = .ok (.aload_n 0, 1) := by decide +kernel
theorem dX8_part_39 : decode cX8_part 39 = .ok (.bipush (-2), 2) := by decide +kernel
theorem dX8_part_41 : decode cX8_part 41 = .ok (.invokevirtual 68, 3) := by decide +kernel
theorem dX8_part_44 : decode cX8_part 44 = .ok (.i2l, 1) := by decide +kernel
theorem dX8_part_45 : decode cX8_part 45 = .ok (.lreturn, 1) := by decide +kernel
theorem dX8_image_0 : decode cX8_image 0 = .ok (.iload_n 1, 1) := by decide +kernel
theorem dX8_image_1 : decode cX8_image 1 = .ok (.iconst 0, 1) := by decide +kernel
theorem dX8_image_2 : decode cX8_image 2 = .ok (.iconst 1, 1) := by decide +kernel
theorem dX8_image_3 : decode cX8_image 3 = .ok (.invokestatic 64, 3) := by decide +kernel
theorem dX8_image_6 : decode cX8_image 6 = .ok (.ifCond .ne 10, 3) := by decide +kernel
theorem dX8_image_9 : decode cX8_image 9 = .ok (.aload_n 0, 1) := by decide +kernel
theorem dX8_image_10 : decode cX8_image 10 = .ok (.bipush (-2), 2) := by decide +kernel
theorem dX8_image_12 : decode cX8_image 12 = .ok (.invokevirtual 68, 3) := by decide +kernel
theorem dX8_image_15 : decode cX8_image 15 = .ok (.ireturn, 1) := by decide +kernel
theorem dX8_image_16 : decode cX8_image 16 = .ok (.aload_n 0, 1) := by decide +kernel
theorem dX8_image_17 : decode cX8_image 17 = .ok (.getfield 19, 3) := by decide +kernel
theorem dX8_image_20 : decode cX8_image 20 = .ok (.iload_n 1, 1) := by decide +kernel
theorem dX8_image_21 : decode cX8_image 21 = .ok (.aaload, 1) := by decide +kernel
theorem dX8_image_22 : decode cX8_image 22 = .ok (.aload_n 0, 1) := by decide +kernel
theorem dX8_image_23 : decode cX8_image 23 = .ok (.getfield 10, 3) := by decide +kernel
theorem dX8_image_26 : decode cX8_image 26 = .ok (.invokevirtual 87, 3) := by decide +kernel
theorem dX8_image_29 : decode cX8_image 29 = .ok (.aload_n 0, 1) := by decide +kernel
theorem dX8_image_30 : decode cX8_image 30 = .ok (.getfield 23, 3) := by decide +kernel
theorem dX8_image_33 : decode cX8_image 33 = .ok (.iload_n 1, 1) := by decide +kernel
theorem dX8_image_34 : decode cX8_image 34 = .ok (.iconst 1, 1) := by decide +kernel
theorem dX8_image_35 : decode cX8_image 35 = .ok (.bastore, 1) := by decide +kernel
theorem dX8_image_36 : decode cX8_image 36 = .ok (.iconst 1, 1) := by decide +kernel
theorem dX8_image_37 : decode cX8_image 37 = .ok (.ireturn, 1) := by decide +kernel
theorem dX8_from_0 : decode cX8_from 0 = .ok (.iload_n 1, 1) := by decide +kernel
theorem dX8_from_1 : decode cX8_from 1 = .ok (.iconst 0, 1) := by decide +kernel
theorem dX8_from_2 : decode cX8_from 2 = .ok (.iconst 1, 1) := by decide +kernel
theorem dX8_from_3 : decode cX8_from 3 = .ok (.invokestatic 64, 3) := by decide +kernel
theorem dX8_from_6 : decode cX8_from 6 = .ok (.ifCond .ne 10, 3) := by decide +kernel
theorem dX8_from_9 : decode cX8_from 9 = .ok (.aload_n 0, 1) := by decide +kernel
theorem dX8_from_10 : decode cX8_from 10 = .ok (.bipush (-2), 2) := by decide +kernel
theorem dX8_from_12 : decode cX8_from 12 = .ok (.invokevirtual 68, 3) := by decide +kernel
theorem dX8_from_15 : decode cX8_from 15 = .ok (.ireturn, 1) := by decide +kernel
theorem dX8_from_16 : decode cX8_from 16 = .ok (.aload_n 0, 1) := by decide +kernel
theorem dX8_from_17 : decode cX8_from 17 = .ok (.getfield 23, 3) := by decide +kernel
theorem dX8_from_20 : decode cX8_from 20 = .ok (.iload_n 1, 1) := by decide +kernel
theorem dX8_from_21 : decode cX8_from 21 = .ok (.baload, 1) := by decide +kernel
theorem dX8_from_22 : decode cX8_from 22 = .ok (.ifCond .ne 10, 3) := by decide +kernel
theorem dX8_from_25 : decode cX8_from 25 = .ok (.aload_n 0, 1) := by decide +kernel
theorem dX8_from_26 : decode cX8_from 26 = .ok (.bipush (-3), 2) := by decide +kernel
theorem dX8_from_28 : decode cX8_from 28 = .ok (.invokevirtual 68, 3) := by decide +kernel
theorem dX8_from_31 : decode cX8_from 31 = .ok (.ireturn, 1) := by decide +kernel
theorem dX8_from_32 : decode cX8_from 32 = .ok (.aload_n 0, 1) := by decide +kernel
theorem dX8_from_33 : decode cX8_from 33 = .ok (.getfield 10, 3) := by decide +kernel
theorem dX8_from_36 : decode cX8_from 36 = .ok (.aload_n 0, 1) := by decide +kernel
theorem dX8_from_37 : decode cX8_from 37 = .ok (.getfield 19, 3) := by decide +kernel
theorem dX8_from_40 : decode cX8_from 40 = .ok (.iload_n 1, 1) := by decide +kernel
theorem dX8_from_41 : decode cX8_from 41 = .ok (.aaload, 1) := by decide +kernel
theorem dX8_from_42 : decode cX8_from 42 = .ok (.invokevirtual 87, 3) := by decide +kernel
theorem dX8_from_45 : decode cX8_from 45 = .ok (.iconst 1, 1) := by decide +kernel
theorem dX8_from_46 : decode cX8_from 46 = .ok (.ireturn, 1) := by decide +kernel
theorem dX8_status_0 : decode cX8_status 0 = .ok (.iload_n 1, 1) := by decide +kernel
theorem dX8_status_1 : decode cX8_status 1 = .ok (.tableswitch 42 0 2 #[27, 32, 37], 27) := by decide +kernel
theorem dX8_status_28 : decode cX8_status 28 = .ok (.aload_n 0, 1) := by decide +kernel
theorem dX8_status_29 : decode cX8_status 29 = .ok (.getfield 48, 3) := by decide +kernel
theorem dX8_status_32 : decode cX8_status 32 = .ok (.ireturn, 1) := by decide +kernel
theorem dX8_status_33 : decode cX8_status 33 = .ok (.aload_n 0, 1) := by decide +kernel
theorem dX8_status_34 : decode cX8_status 34 = .ok (.getfield 52, 3) := by decide +kernel
theorem dX8_status_37 : decode cX8_status 37 = .ok (.ireturn, 1) := by decide +kernel
theorem dX8_status_38 : decode cX8_status 38 = .ok (.aload_n 0, 1) := by decide +kernel
theorem dX8_status_39 : decode cX8_status 39 = .ok (.getfield 55, 3) := by decide +kernel
theorem dX8_status_42 : decode cX8_status 42 = .ok (.ireturn, 1) := by decide +kernel
theorem dX8_status_43 : decode cX8_status 43 = .ok (.aload_n 0, 1) := by decide +kernel
theorem dX8_status_44 : decode cX8_status 44 = .ok (.bipush (-2), 2) := by decide +kernel
theorem dX8_status_46 : decode cX8_status 46 = .ok (.invokevirtual 68, 3) := by decide +kernel
theorem dX8_status_49 : decode cX8_status 49 = .ok (.pop, 1) := by decide +kernel
theorem dX8_status_50 : decode cX8_status 50 = .ok (.iconst (-1), 1) := by decide +kernel
theorem dX8_status_51 : decode cX8_status 51 = .ok (.ireturn, 1) := by decide +kernel
theorem dX8_count_0 : decode cX8_count 0 = .ok (.iload_n 1, 1) := by decide +kernel
theorem dX8_count_1 : decode cX8_count 1 = .ok (.iconst 0, 1) := by decide +kernel
theorem dX8_count_2 : decode cX8_count 2 = .ok (.bipush 9, 2) := by decide +kernel
theorem dX8_count_4 : decode cX8_count 4 = .ok (.invokestatic 64, 3) := by decide +kernel
theorem dX8_count_7 : decode cX8_count 7 = .ok (.ifCond .eq 11, 3) := by decide +kernel
theorem dX8_count_10 : decode cX8_count 10 = .ok (.aload_n 0, 1) := by decide +kernel
theorem dX8_count_11 : decode cX8_count 11 = .ok (.iload_n 1, 1) := by decide +kernel
theorem dX8_count_12 : decode cX8_count 12 = .ok (.invokevirtual 273, 3) := by decide +kernel
theorem dX8_count_15 : decode cX8_count 15 = .ok (.goto 9, 3) := by decide +kernel
theorem dX8_count_18 : decode cX8_count 18 = .ok (.aload_n 0, 1) := by decide +kernel
theorem dX8_count_19 : decode cX8_count 19 = .ok (.bipush (-2), 2) := by decide +kernel
theorem dX8_count_21 : decode cX8_count 21 = .ok (.invokevirtual 68, 3) := by decide +kernel
theorem dX8_count_24 : decode cX8_count 24 = .ok (.ireturn, 1) := by decide +kernel
theorem dX8_digest_0 : decode cX8_digest 0 = .ok (.ldc2_w 276, 3) := by decide +kernel
theorem dX8_digest_3 : decode cX8_digest 3 = .ok (.lstore_n 1, 1) := by decide +kernel
theorem dX8_digest_4 : decode cX8_digest 4 = .ok (.iconst 0, 1) := by decide +kernel
theorem dX8_digest_5 : decode cX8_digest 5 = .ok (.istore_n 3, 1) := by decide +kernel
theorem dX8_digest_6 : decode cX8_digest 6 = .ok (.iload_n 3, 1) := by decide +kernel
theorem dX8_digest_7 : decode cX8_digest 7 = .ok (.bipush 9, 2) := by decide +kernel
theorem dX8_digest_9 : decode cX8_digest 9 = .ok (.if_icmp .gt 22, 3) := by decide +kernel
theorem dX8_digest_12 : decode cX8_digest 12 = .ok (.ldc2_w 278, 3) := by decide +kernel
theorem dX8_digest_15 : decode cX8_digest 15 = .ok (.lload_n 1, 1) := by decide +kernel
theorem dX8_digest_16 : decode cX8_digest 16 = .ok (.lmul, 1) := by decide +kernel
theorem dX8_digest_17 : decode cX8_digest 17 = .ok (.aload_n 0, 1) := by decide +kernel
theorem dX8_digest_18 : decode cX8_digest 18 = .ok (.iload_n 3, 1) := by decide +kernel
theorem dX8_digest_19 : decode cX8_digest 19 = .ok (.invokevirtual 273, 3) := by decide +kernel
theorem dX8_digest_22 : decode cX8_digest 22 = .ok (.i2l, 1) := by decide +kernel
theorem dX8_digest_23 : decode cX8_digest 23 = .ok (.ladd, 1) := by decide +kernel
theorem dX8_digest_24 : decode cX8_digest 24 = .ok (.lstore_n 1, 1) := by decide +kernel
theorem dX8_digest_25 : decode cX8_digest 25 = .ok (.iinc 3 1, 3) := by decide +kernel
theorem dX8_digest_28 : decode cX8_digest 28 = .ok (.goto (-22), 3) := by decide +kernel
theorem dX8_digest_31 : decode cX8_digest 31 = .ok (.aload_n 0, 1) := by decide +kernel
theorem dX8_digest_32 : decode cX8_digest 32 = .ok (.getfield 10, 3) := by decide +kernel
theorem dX8_digest_35 : decode cX8_digest 35 = .ok (.lload_n 1, 1) := by decide +kernel
theorem dX8_digest_36 : decode cX8_digest 36 = .ok (.invokevirtual 280, 3) := by decide +kernel
theorem dX8_digest_39 : decode cX8_digest 39 = .ok (.lstore_n 1, 1) := by decide +kernel
theorem dX8_digest_40 : decode cX8_digest 40 = .ok (.ldc2_w 278, 3) := by decide +kernel
theorem dX8_digest_43 : decode cX8_digest 43 = .ok (.lload_n 1, 1) := by decide +kernel
theorem dX8_digest_44 : decode cX8_digest 44 = .ok (.lmul, 1) := by decide +kernel
theorem dX8_digest_45 : decode cX8_digest 45 = .ok (.aload_n 0, 1) := by decide +kernel
theorem dX8_digest_46 : decode cX8_digest 46 = .ok (.getfield 41, 3) := by decide +kernel
theorem dX8_digest_49 : decode cX8_digest 49 = .ok (.ladd, 1) := by decide +kernel
theorem dX8_digest_50 : decode cX8_digest 50 = .ok (.lstore_n 1, 1) := by decide +kernel
theorem dX8_digest_51 : decode cX8_digest 51 = .ok (.ldc2_w 278, 3) := by decide +kernel
theorem dX8_digest_54 : decode cX8_digest 54 = .ok (.lload_n 1, 1) := by decide +kernel
theorem dX8_digest_55 : decode cX8_digest 55 = .ok (.lmul, 1) := by decide +kernel
theorem dX8_digest_56 : decode cX8_digest 56 = .ok (.aload_n 0, 1) := by decide +kernel
theorem dX8_digest_57 : decode cX8_digest 57 = .ok (.getfield 45, 3) := by decide +kernel
theorem dX8_digest_60 : decode cX8_digest 60 = .ok (.ladd, 1) := by decide +kernel
theorem dX8_digest_61 : decode cX8_digest 61 = .ok (.lreturn, 1) := by decide +kernel
theorem dX8_within_0 : decode cX8_within 0 = .ok (.iload_n 1, 1) := by decide +kernel
theorem dX8_within_1 : decode cX8_within 1 = .ok (.iload_n 0, 1) := by decide +kernel
theorem dX8_within_2 : decode cX8_within 2 = .ok (.if_icmp .gt 12, 3) := by decide +kernel
theorem dX8_within_5 : decode cX8_within 5 = .ok (.iload_n 0, 1) := by decide +kernel
theorem dX8_within_6 : decode cX8_within 6 = .ok (.iload_n 2, 1) := by decide +kernel
theorem dX8_within_7 : decode cX8_within 7 = .ok (.if_icmp .gt 7, 3) := by decide +kernel
theorem dX8_within_10 : decode cX8_within 10 = .ok (.iconst 1, 1) := by decide +kernel
theorem dX8_within_11 : decode cX8_within 11 = .ok (.goto 4, 3) := by decide +kernel
theorem dX8_within_14 : decode cX8_within 14 = .ok (.iconst 0, 1) := by decide +kernel
theorem dX8_within_15 : decode cX8_within 15 = .ok (.ireturn, 1) := by decide +kernel
theorem dX8_isStep_0 : decode cX8_isStep 0 = .ok (.iload_n 0, 1) := by decide +kernel
theorem dX8_isStep_1 : decode cX8_isStep 1 = .ok (.iconst 0, 1) := by decide +kernel
theorem dX8_isStep_2 : decode cX8_isStep 2 = .ok (.bipush 7, 2) := by decide +kernel
theorem dX8_isStep_4 : decode cX8_isStep 4 = .ok (.invokestatic 64, 3) := by decide +kernel
theorem dX8_isStep_7 : decode cX8_isStep 7 = .ok (.ireturn, 1) := by decide +kernel
theorem dX8_refuse_0 : decode cX8_refuse 0 = .ok (.iload_n 1, 1) := by decide +kernel
theorem dX8_refuse_1 : decode cX8_refuse 1 = .ok (.bipush (-2), 2) := by decide +kernel
theorem dX8_refuse_3 : decode cX8_refuse 3 = .ok (.if_icmp .ne 16, 3) := by decide +kernel
theorem dX8_refuse_6 : decode cX8_refuse 6 = .ok (.aload_n 0, 1) := by decide +kernel
theorem dX8_refuse_7 : decode cX8_refuse 7 = .ok (.dup, 1) := by decide +kernel
theorem dX8_refuse_8 : decode cX8_refuse 8 = .ok (.getfield 48, 3) := by decide +kernel
theorem dX8_refuse_11 : decode cX8_refuse 11 = .ok (.iconst 1, 1) := by decide +kernel
theorem dX8_refuse_12 : decode cX8_refuse 12 = .ok (.iadd, 1) := by decide +kernel
theorem dX8_refuse_13 : decode cX8_refuse 13 = .ok (.putfield 48, 3) := by decide +kernel
theorem dX8_refuse_16 : decode cX8_refuse 16 = .ok (.goto 32, 3) := by decide +kernel
theorem dX8_refuse_19 : decode cX8_refuse 19 = .ok (.iload_n 1, 1) := by decide +kernel
theorem dX8_refuse_20 : decode cX8_refuse 20 = .ok (.bipush (-3), 2) := by decide +kernel
theorem dX8_refuse_22 : decode cX8_refuse 22 = .ok (.if_icmp .ne 16, 3) := by decide +kernel
theorem dX8_refuse_25 : decode cX8_refuse 25 = .ok (.aload_n 0, 1) := by decide +kernel
theorem dX8_refuse_26 : decode cX8_refuse 26 = .ok (.dup, 1) := by decide +kernel
theorem dX8_refuse_27 : decode cX8_refuse 27 = .ok (.getfield 52, 3) := by decide +kernel
theorem dX8_refuse_30 : decode cX8_refuse 30 = .ok (.iconst 1, 1) := by decide +kernel
theorem dX8_refuse_31 : decode cX8_refuse 31 = .ok (.iadd, 1) := by decide +kernel
theorem dX8_refuse_32 : decode cX8_refuse 32 = .ok (.putfield 52, 3) := by decide +kernel
theorem dX8_refuse_35 : decode cX8_refuse 35 = .ok (.goto 13, 3) := by decide +kernel
theorem dX8_refuse_38 : decode cX8_refuse 38 = .ok (.aload_n 0, 1) := by decide +kernel
theorem dX8_refuse_39 : decode cX8_refuse 39 = .ok (.dup, 1) := by decide +kernel
theorem dX8_refuse_40 : decode cX8_refuse 40 = .ok (.getfield 55, 3) := by decide +kernel
theorem dX8_refuse_43 : decode cX8_refuse 43 = .ok (.iconst 1, 1) := by decide +kernel
theorem dX8_refuse_44 : decode cX8_refuse 44 = .ok (.iadd, 1) := by decide +kernel
theorem dX8_refuse_45 : decode cX8_refuse 45 = .ok (.putfield 55, 3) := by decide +kernel
theorem dX8_refuse_48 : decode cX8_refuse 48 = .ok (.iload_n 1, 1) := by decide +kernel
theorem dX8_refuse_49 : decode cX8_refuse 49 = .ok (.ireturn, 1) := by decide +kernel
theorem dX8_refusePlace_0 : decode cX8_refusePlace 0 = .ok (.aload_n 0, 1) := by decide +kernel
theorem dX8_refusePlace_1 : decode cX8_refusePlace 1 = .ok (.bipush (-2), 2) := by decide +kernel
theorem dX8_refusePlace_3 : decode cX8_refusePlace 3 = .ok (.invokevirtual 68, 3) := by decide +kernel
theorem dX8_refusePlace_6 : decode cX8_refusePlace 6 = .ok (.pop, 1) := by decide +kernel
theorem dX8_refusePlace_7 : decode cX8_refusePlace 7 = .ok (.bipush (-10), 2) := by decide +kernel
theorem dX8_refusePlace_9 : decode cX8_refusePlace 9 = .ok (.ireturn, 1) := by decide +kernel
theorem dX8_add_0 : decode cX8_add 0 = .ok (.aload_n 1, 1) := by decide +kernel
theorem dX8_add_1 : decode cX8_add 1 = .ok (.getfield 284, 3) := by decide +kernel
theorem dX8_add_4 : decode cX8_add 4 = .ok (.bipush 6, 2) := by decide +kernel
theorem dX8_add_6 : decode cX8_add 6 = .ok (.if_icmp .lt 10, 3) := by decide +kernel
theorem dX8_add_9 : decode cX8_add 9 = .ok (.aload_n 0, 1) := by decide +kernel
theorem dX8_add_10 : decode cX8_add 10 = .ok (.bipush (-4), 2) := by decide +kernel
theorem dX8_add_12 : decode cX8_add 12 = .ok (.invokevirtual 68, 3) := by decide +kernel
theorem dX8_add_15 : decode cX8_add 15 = .ok (.ireturn, 1) := by decide +kernel
theorem dX8_add_16 : decode cX8_add 16 = .ok (.aload_n 1, 1) := by decide +kernel
theorem dX8_add_17 : decode cX8_add 17 = .ok (.iload_n 2, 1) := by decide +kernel
theorem dX8_add_18 : decode cX8_add 18 = .ok (.iload_n 3, 1) := by decide +kernel
theorem dX8_add_19 : decode cX8_add 19 = .ok (.iload 4, 2) := by decide +kernel
theorem dX8_add_21 : decode cX8_add 21 = .ok (.iload 5, 2) := by decide +kernel
theorem dX8_add_23 : decode cX8_add 23 = .ok (.invokevirtual 285, 3) := by decide +kernel
theorem dX8_add_26 : decode cX8_add 26 = .ok (.aload_n 1, 1) := by decide +kernel
theorem dX8_add_27 : decode cX8_add 27 = .ok (.getfield 284, 3) := by decide +kernel
theorem dX8_add_30 : decode cX8_add 30 = .ok (.ireturn, 1) := by decide +kernel
theorem dX8_counted_0 : decode cX8_counted 0 = .ok (.iload_n 1, 1) := by decide +kernel
theorem dX8_counted_1 : decode cX8_counted 1 = .ok (.tableswitch 147 0 8 #[51, 59, 70, 81, 95, 106, 117, 128, 139], 51) := by decide +kernel
theorem dX8_counted_52 : decode cX8_counted 52 = .ok (.aload_n 0, 1) := by decide +kernel
theorem dX8_counted_53 : decode cX8_counted 53 = .ok (.getfield 10, 3) := by decide +kernel
theorem dX8_counted_56 : decode cX8_counted 56 = .ok (.getfield 58, 3) := by decide +kernel
theorem dX8_counted_59 : decode cX8_counted 59 = .ok (.ireturn, 1) := by decide +kernel
theorem dX8_counted_60 : decode cX8_counted 60 = .ok (.aload_n 0, 1) := by decide +kernel
theorem dX8_counted_61 : decode cX8_counted 61 = .ok (.getfield 10, 3) := by decide +kernel
theorem dX8_counted_64 : decode cX8_counted 64 = .ok (.getfield 98, 3) := by decide +kernel
theorem dX8_counted_67 : decode cX8_counted 67 = .ok (.getfield 108, 3) := by decide +kernel
theorem dX8_counted_70 : decode cX8_counted 70 = .ok (.ireturn, 1) := by decide +kernel
theorem dX8_counted_71 : decode cX8_counted 71 = .ok (.aload_n 0, 1) := by decide +kernel
theorem dX8_counted_72 : decode cX8_counted 72 = .ok (.getfield 10, 3) := by decide +kernel
theorem dX8_counted_75 : decode cX8_counted 75 = .ok (.getfield 98, 3) := by decide +kernel
theorem dX8_counted_78 : decode cX8_counted 78 = .ok (.invokevirtual 134, 3) := by decide +kernel
theorem dX8_counted_81 : decode cX8_counted 81 = .ok (.ireturn, 1) := by decide +kernel
theorem dX8_counted_82 : decode cX8_counted 82 = .ok (.aload_n 0, 1) := by decide +kernel
theorem dX8_counted_83 : decode cX8_counted 83 = .ok (.getfield 10, 3) := by decide +kernel
theorem dX8_counted_86 : decode cX8_counted 86 = .ok (.getfield 98, 3) := by decide +kernel
theorem dX8_counted_89 : decode cX8_counted 89 = .ok (.getfield 137, 3) := by decide +kernel
theorem dX8_counted_92 : decode cX8_counted 92 = .ok (.invokestatic 143, 3) := by decide +kernel
theorem dX8_counted_95 : decode cX8_counted 95 = .ok (.ireturn, 1) := by decide +kernel
theorem dX8_counted_96 : decode cX8_counted 96 = .ok (.aload_n 0, 1) := by decide +kernel
theorem dX8_counted_97 : decode cX8_counted 97 = .ok (.getfield 10, 3) := by decide +kernel
theorem dX8_counted_100 : decode cX8_counted 100 = .ok (.getfield 98, 3) := by decide +kernel
theorem dX8_counted_103 : decode cX8_counted 103 = .ok (.invokevirtual 288, 3) := by decide +kernel
theorem dX8_counted_106 : decode cX8_counted 106 = .ok (.ireturn, 1) := by decide +kernel
theorem dX8_counted_107 : decode cX8_counted 107 = .ok (.aload_n 0, 1) := by decide +kernel
theorem dX8_counted_108 : decode cX8_counted 108 = .ok (.getfield 10, 3) := by decide +kernel
theorem dX8_counted_111 : decode cX8_counted 111 = .ok (.getfield 200, 3) := by decide +kernel
theorem dX8_counted_114 : decode cX8_counted 114 = .ok (.getfield 284, 3) := by decide +kernel
theorem dX8_counted_117 : decode cX8_counted 117 = .ok (.ireturn, 1) := by decide +kernel
theorem dX8_counted_118 : decode cX8_counted 118 = .ok (.aload_n 0, 1) := by decide +kernel
theorem dX8_counted_119 : decode cX8_counted 119 = .ok (.getfield 10, 3) := by decide +kernel
theorem dX8_counted_122 : decode cX8_counted 122 = .ok (.getfield 211, 3) := by decide +kernel
theorem dX8_counted_125 : decode cX8_counted 125 = .ok (.getfield 284, 3) := by decide +kernel
theorem dX8_counted_128 : decode cX8_counted 128 = .ok (.ireturn, 1) := by decide +kernel
theorem dX8_counted_129 : decode cX8_counted 129 = .ok (.aload_n 0, 1) := by decide +kernel
theorem dX8_counted_130 : decode cX8_counted 130 = .ok (.getfield 10, 3) := by decide +kernel
theorem dX8_counted_133 : decode cX8_counted 133 = .ok (.getfield 214, 3) := by decide +kernel
theorem dX8_counted_136 : decode cX8_counted 136 = .ok (.getfield 284, 3) := by decide +kernel
theorem dX8_counted_139 : decode cX8_counted 139 = .ok (.ireturn, 1) := by decide +kernel
theorem dX8_counted_140 : decode cX8_counted 140 = .ok (.aload_n 0, 1) := by decide +kernel
theorem dX8_counted_141 : decode cX8_counted 141 = .ok (.getfield 10, 3) := by decide +kernel
theorem dX8_counted_144 : decode cX8_counted 144 = .ok (.getfield 151, 3) := by decide +kernel
theorem dX8_counted_147 : decode cX8_counted 147 = .ok (.ireturn, 1) := by decide +kernel
theorem dX8_counted_148 : decode cX8_counted 148 = .ok (.aload_n 0, 1) := by decide +kernel
theorem dX8_counted_149 : decode cX8_counted 149 = .ok (.getfield 30, 3) := by decide +kernel
theorem dX8_counted_152 : decode cX8_counted 152 = .ok (.getfield 76, 3) := by decide +kernel
theorem dX8_counted_155 : decode cX8_counted 155 = .ok (.ireturn, 1) := by decide +kernel
theorem dX8_oddsOf_0 : decode cX8_oddsOf 0 = .ok (.lconst 1, 1) := by decide +kernel
theorem dX8_oddsOf_1 : decode cX8_oddsOf 1 = .ok (.lstore_n 3, 1) := by decide +kernel
theorem dX8_oddsOf_2 : decode cX8_oddsOf 2 = .ok (.iconst 0, 1) := by decide +kernel
theorem dX8_oddsOf_3 : decode cX8_oddsOf 3 = .ok (.istore 5, 2) := by decide +kernel
theorem dX8_oddsOf_5 : decode cX8_oddsOf 5 = .ok (.iload 5, 2) := by decide +kernel
theorem dX8_oddsOf_7 : decode cX8_oddsOf 7 = .ok (.bipush 6, 2) := by decide +kernel
theorem dX8_oddsOf_9 : decode cX8_oddsOf 9 = .ok (.if_icmp .ge 42, 3) := by decide +kernel
theorem dX8_oddsOf_12 : decode cX8_oddsOf 12 = .ok (.iload_n 0, 1) := by decide +kernel
theorem dX8_oddsOf_13 : decode cX8_oddsOf 13 = .ok (.iload 5, 2) := by decide +kernel
theorem dX8_oddsOf_15 : decode cX8_oddsOf 15 = .ok (.ishr, 1) := by decide +kernel
theorem dX8_oddsOf_16 : decode cX8_oddsOf 16 = .ok (.iconst 1, 1) := by decide +kernel
theorem dX8_oddsOf_17 : decode cX8_oddsOf 17 = .ok (.iand, 1) := by decide +kernel
theorem dX8_oddsOf_18 : decode cX8_oddsOf 18 = .ok (.iconst 1, 1) := by decide +kernel
theorem dX8_oddsOf_19 : decode cX8_oddsOf 19 = .ok (.if_icmp .ne 26, 3) := by decide +kernel
theorem dX8_oddsOf_22 : decode cX8_oddsOf 22 = .ok (.lload_n 3, 1) := by decide +kernel
theorem dX8_oddsOf_23 : decode cX8_oddsOf 23 = .ok (.iload_n 1, 1) := by decide +kernel
theorem dX8_oddsOf_24 : decode cX8_oddsOf 24 = .ok (.iload 5, 2) := by decide +kernel
theorem dX8_oddsOf_26 : decode cX8_oddsOf 26 = .ok (.ishr, 1) := by decide +kernel
theorem dX8_oddsOf_27 : decode cX8_oddsOf 27 = .ok (.iconst 1, 1) := by decide +kernel
theorem dX8_oddsOf_28 : decode cX8_oddsOf 28 = .ok (.iand, 1) := by decide +kernel
theorem dX8_oddsOf_29 : decode cX8_oddsOf 29 = .ok (.iconst 1, 1) := by decide +kernel
theorem dX8_oddsOf_30 : decode cX8_oddsOf 30 = .ok (.if_icmp .ne 11, 3) := by decide +kernel
theorem dX8_oddsOf_33 : decode cX8_oddsOf 33 = .ok (.bipush 10, 2) := by decide +kernel
theorem dX8_oddsOf_35 : decode cX8_oddsOf 35 = .ok (.iload_n 2, 1) := by decide +kernel
theorem dX8_oddsOf_36 : decode cX8_oddsOf 36 = .ok (.isub, 1) := by decide +kernel
theorem dX8_oddsOf_37 : decode cX8_oddsOf 37 = .ok (.i2l, 1) := by decide +kernel
theorem dX8_oddsOf_38 : decode cX8_oddsOf 38 = .ok (.goto 5, 3) := by decide +kernel
theorem dX8_oddsOf_41 : decode cX8_oddsOf 41 = .ok (.iload_n 2, 1) := by decide +kernel
theorem dX8_oddsOf_42 : decode cX8_oddsOf 42 = .ok (.i2l, 1) := by decide +kernel
theorem dX8_oddsOf_43 : decode cX8_oddsOf 43 = .ok (.lmul, 1) := by decide +kernel
theorem dX8_oddsOf_44 : decode cX8_oddsOf 44 = .ok (.lstore_n 3, 1) := by decide +kernel
theorem dX8_oddsOf_45 : decode cX8_oddsOf 45 = .ok (.iinc 5 1, 3) := by decide +kernel
theorem dX8_oddsOf_48 : decode cX8_oddsOf 48 = .ok (.goto (-43), 3) := by decide +kernel
theorem dX8_oddsOf_51 : decode cX8_oddsOf 51 = .ok (.lload_n 3, 1) := by decide +kernel
theorem dX8_oddsOf_52 : decode cX8_oddsOf 52 = .ok (.lreturn, 1) := by decide +kernel
theorem dX8_keepFraction_0 : decode cX8_keepFraction 0 = .ok (.lload_n 1, 1) := by decide +kernel
theorem dX8_keepFraction_1 : decode cX8_keepFraction 1 = .ok (.lload_n 3, 1) := by decide +kernel
theorem dX8_keepFraction_2 : decode cX8_keepFraction 2 = .ok (.invokestatic 291, 3) := by decide +kernel
theorem dX8_keepFraction_5 : decode cX8_keepFraction 5 = .ok (.lstore 5, 2) := by decide +kernel
theorem dX8_keepFraction_7 : decode cX8_keepFraction 7 = .ok (.lload 5, 2) := by decide +kernel
theorem dX8_keepFraction_9 : decode cX8_keepFraction 9 = .ok (.lconst 0, 1) := by decide +kernel
theorem dX8_keepFraction_10 : decode cX8_keepFraction 10 = .ok (.lcmp, 1) := by decide +kernel
theorem dX8_keepFraction_11 : decode cX8_keepFraction 11 = .ok (.ifCond .le 19, 3) := by decide +kernel
theorem dX8_keepFraction_14 : decode cX8_keepFraction 14 = .ok (.aload_n 0, 1) := by decide +kernel
theorem dX8_keepFraction_15 : decode cX8_keepFraction 15 = .ok (.lload_n 1, 1) := by decide +kernel
theorem dX8_keepFraction_16 : decode cX8_keepFraction 16 = .ok (.lload 5, 2) := by decide +kernel
theorem dX8_keepFraction_18 : decode cX8_keepFraction 18 = .ok (.ldiv, 1) := by decide +kernel
theorem dX8_keepFraction_19 : decode cX8_keepFraction 19 = .ok (.putfield 41, 3) := by decide +kernel
theorem dX8_keepFraction_22 : decode cX8_keepFraction 22 = .ok (.aload_n 0, 1) := by decide +kernel
theorem dX8_keepFraction_23 : decode cX8_keepFraction 23 = .ok (.lload_n 3, 1) := by decide +kernel
theorem dX8_keepFraction_24 : decode cX8_keepFraction 24 = .ok (.lload 5, 2) := by decide +kernel
theorem dX8_keepFraction_26 : decode cX8_keepFraction 26 = .ok (.ldiv, 1) := by decide +kernel
theorem dX8_keepFraction_27 : decode cX8_keepFraction 27 = .ok (.putfield 45, 3) := by decide +kernel
theorem dX8_keepFraction_30 : decode cX8_keepFraction 30 = .ok (.return_, 1) := by decide +kernel
theorem dX8_greatestDivisor_0 : decode cX8_greatestDivisor 0 = .ok (.iconst 0, 1) := by decide +kernel
theorem dX8_greatestDivisor_1 : decode cX8_greatestDivisor 1 = .ok (.istore 4, 2) := by decide +kernel
theorem dX8_greatestDivisor_3 : decode cX8_greatestDivisor 3 = .ok (.iload 4, 2) := by decide +kernel
theorem dX8_greatestDivisor_5 : decode cX8_greatestDivisor 5 = .ok (.bipush 100, 2) := by decide +kernel
theorem dX8_greatestDivisor_7 : decode cX8_greatestDivisor 7 = .ok (.if_icmp .ge 25, 3) := by decide +kernel
theorem dX8_greatestDivisor_10 : decode cX8_greatestDivisor 10 = .ok (.lload_n 2, 1) := by decide +kernel
theorem dX8_greatestDivisor_11 : decode cX8_greatestDivisor 11 = .ok (.lconst 0, 1) := by decide +kernel
theorem dX8_greatestDivisor_12 : decode cX8_greatestDivisor 12 = .ok (.lcmp, 1) := by decide +kernel
theorem dX8_greatestDivisor_13 : decode cX8_greatestDivisor 13 = .ok (.ifCond .eq 19, 3) := by decide +kernel
theorem dX8_greatestDivisor_16 : decode cX8_greatestDivisor 16 = .ok (.lload_n 0, 1) := by decide +kernel
theorem dX8_greatestDivisor_17 : decode cX8_greatestDivisor 17 = .ok (.lload_n 2, 1) := by decide +kernel
theorem dX8_greatestDivisor_18 : decode cX8_greatestDivisor 18 = .ok (.lrem, 1) := by decide +kernel
theorem dX8_greatestDivisor_19 : decode cX8_greatestDivisor 19 = .ok (.lstore 5, 2) := by decide +kernel
theorem dX8_greatestDivisor_21 : decode cX8_greatestDivisor 21 = .ok (.lload_n 2, 1) := by decide +kernel
theorem dX8_greatestDivisor_22 : decode cX8_greatestDivisor 22 = .ok (.lstore_n 0, 1) := by decide +kernel
theorem dX8_greatestDivisor_23 : decode cX8_greatestDivisor 23 = .ok (.lload 5, 2) := by decide +kernel
theorem dX8_greatestDivisor_25 : decode cX8_greatestDivisor 25 = .ok (.lstore_n 2, 1) := by decide +kernel
theorem dX8_greatestDivisor_26 : decode cX8_greatestDivisor 26 = .ok (.iinc 4 1, 3) := by decide +kernel
theorem dX8_greatestDivisor_29 : decode cX8_greatestDivisor 29 = .ok (.goto (-26), 3) := by decide +kernel
theorem dX8_greatestDivisor_32 : decode cX8_greatestDivisor 32 = .ok (.lload_n 0, 1) := by decide +kernel
theorem dX8_greatestDivisor_33 : decode cX8_greatestDivisor 33 = .ok (.lreturn, 1) := by decide +kernel
theorem dJ6_bitCount_0f7a4_0 : decode cJ6_bitCount_0f7a4 0 = .ok (.iload_n 0, 1) := by decide +kernel
theorem dJ6_bitCount_0f7a4_1 : decode cJ6_bitCount_0f7a4 1 = .ok (.iload_n 0, 1) := by decide +kernel
theorem dJ6_bitCount_0f7a4_2 : decode cJ6_bitCount_0f7a4 2 = .ok (.iconst 1, 1) := by decide +kernel
theorem dJ6_bitCount_0f7a4_3 : decode cJ6_bitCount_0f7a4 3 = .ok (.iushr, 1) := by decide +kernel
theorem dJ6_bitCount_0f7a4_4 : decode cJ6_bitCount_0f7a4 4 = .ok (.ldc_w 265, 3) := by decide +kernel
theorem dJ6_bitCount_0f7a4_7 : decode cJ6_bitCount_0f7a4 7 = .ok (.iand, 1) := by decide +kernel
theorem dJ6_bitCount_0f7a4_8 : decode cJ6_bitCount_0f7a4 8 = .ok (.isub, 1) := by decide +kernel
theorem dJ6_bitCount_0f7a4_9 : decode cJ6_bitCount_0f7a4 9 = .ok (.istore_n 0, 1) := by decide +kernel
theorem dJ6_bitCount_0f7a4_10 : decode cJ6_bitCount_0f7a4 10 = .ok (.iload_n 0, 1) := by decide +kernel
theorem dJ6_bitCount_0f7a4_11 : decode cJ6_bitCount_0f7a4 11 = .ok (.ldc_w 266, 3) := by decide +kernel
theorem dJ6_bitCount_0f7a4_14 : decode cJ6_bitCount_0f7a4 14 = .ok (.iand, 1) := by decide +kernel
theorem dJ6_bitCount_0f7a4_15 : decode cJ6_bitCount_0f7a4 15 = .ok (.iload_n 0, 1) := by decide +kernel
theorem dJ6_bitCount_0f7a4_16 : decode cJ6_bitCount_0f7a4 16 = .ok (.iconst 2, 1) := by decide +kernel
theorem dJ6_bitCount_0f7a4_17 : decode cJ6_bitCount_0f7a4 17 = .ok (.iushr, 1) := by decide +kernel
theorem dJ6_bitCount_0f7a4_18 : decode cJ6_bitCount_0f7a4 18 = .ok (.ldc_w 266, 3) := by decide +kernel
theorem dJ6_bitCount_0f7a4_21 : decode cJ6_bitCount_0f7a4 21 = .ok (.iand, 1) := by decide +kernel
theorem dJ6_bitCount_0f7a4_22 : decode cJ6_bitCount_0f7a4 22 = .ok (.iadd, 1) := by decide +kernel
theorem dJ6_bitCount_0f7a4_23 : decode cJ6_bitCount_0f7a4 23 = .ok (.istore_n 0, 1) := by decide +kernel
theorem dJ6_bitCount_0f7a4_24 : decode cJ6_bitCount_0f7a4 24 = .ok (.iload_n 0, 1) := by decide +kernel
theorem dJ6_bitCount_0f7a4_25 : decode cJ6_bitCount_0f7a4 25 = .ok (.iload_n 0, 1) := by decide +kernel
theorem dJ6_bitCount_0f7a4_26 : decode cJ6_bitCount_0f7a4 26 = .ok (.iconst 4, 1) := by decide +kernel
theorem dJ6_bitCount_0f7a4_27 : decode cJ6_bitCount_0f7a4 27 = .ok (.iushr, 1) := by decide +kernel
theorem dJ6_bitCount_0f7a4_28 : decode cJ6_bitCount_0f7a4 28 = .ok (.iadd, 1) := by decide +kernel
theorem dJ6_bitCount_0f7a4_29 : decode cJ6_bitCount_0f7a4 29 = .ok (.ldc_w 267, 3) := by decide +kernel
theorem dJ6_bitCount_0f7a4_32 : decode cJ6_bitCount_0f7a4 32 = .ok (.iand, 1) := by decide +kernel
theorem dJ6_bitCount_0f7a4_33 : decode cJ6_bitCount_0f7a4 33 = .ok (.istore_n 0, 1) := by decide +kernel
theorem dJ6_bitCount_0f7a4_34 : decode cJ6_bitCount_0f7a4 34 = .ok (.iload_n 0, 1) := by decide +kernel
theorem dJ6_bitCount_0f7a4_35 : decode cJ6_bitCount_0f7a4 35 = .ok (.iload_n 0, 1) := by decide +kernel
theorem dJ6_bitCount_0f7a4_36 : decode cJ6_bitCount_0f7a4 36 = .ok (.bipush 8, 2) := by decide +kernel
theorem dJ6_bitCount_0f7a4_38 : decode cJ6_bitCount_0f7a4 38 = .ok (.iushr, 1) := by decide +kernel
theorem dJ6_bitCount_0f7a4_39 : decode cJ6_bitCount_0f7a4 39 = .ok (.iadd, 1) := by decide +kernel
theorem dJ6_bitCount_0f7a4_40 : decode cJ6_bitCount_0f7a4 40 = .ok (.istore_n 0, 1) := by decide +kernel
theorem dJ6_bitCount_0f7a4_41 : decode cJ6_bitCount_0f7a4 41 = .ok (.iload_n 0, 1) := by decide +kernel
theorem dJ6_bitCount_0f7a4_42 : decode cJ6_bitCount_0f7a4 42 = .ok (.iload_n 0, 1) := by decide +kernel
theorem dJ6_bitCount_0f7a4_43 : decode cJ6_bitCount_0f7a4 43 = .ok (.bipush 16, 2) := by decide +kernel
theorem dJ6_bitCount_0f7a4_45 : decode cJ6_bitCount_0f7a4 45 = .ok (.iushr, 1) := by decide +kernel
theorem dJ6_bitCount_0f7a4_46 : decode cJ6_bitCount_0f7a4 46 = .ok (.iadd, 1) := by decide +kernel
theorem dJ6_bitCount_0f7a4_47 : decode cJ6_bitCount_0f7a4 47 = .ok (.istore_n 0, 1) := by decide +kernel
theorem dJ6_bitCount_0f7a4_48 : decode cJ6_bitCount_0f7a4 48 = .ok (.iload_n 0, 1) := by decide +kernel
theorem dJ6_bitCount_0f7a4_49 : decode cJ6_bitCount_0f7a4 49 = .ok (.bipush 63, 2) := by decide +kernel
theorem dJ6_bitCount_0f7a4_51 : decode cJ6_bitCount_0f7a4 51 = .ok (.iand, 1) := by decide +kernel
theorem dJ6_bitCount_0f7a4_52 : decode cJ6_bitCount_0f7a4 52 = .ok (.ireturn, 1) := by decide +kernel
theorem dJ9_max_7cf53_0 : decode cJ9_max_7cf53 0 = .ok (.iload_n 0, 1) := by decide +kernel
theorem dJ9_max_7cf53_1 : decode cJ9_max_7cf53 1 = .ok (.iload_n 1, 1) := by decide +kernel
theorem dJ9_max_7cf53_2 : decode cJ9_max_7cf53 2 = .ok (.if_icmp .lt 7, 3) := by decide +kernel
theorem dJ9_max_7cf53_5 : decode cJ9_max_7cf53 5 = .ok (.iload_n 0, 1) := by decide +kernel
theorem dJ9_max_7cf53_6 : decode cJ9_max_7cf53 6 = .ok (.goto 4, 3) := by decide +kernel
theorem dJ9_max_7cf53_9 : decode cJ9_max_7cf53 9 = .ok (.iload_n 1, 1) := by decide +kernel
theorem dJ9_max_7cf53_10 : decode cJ9_max_7cf53 10 = .ok (.ireturn, 1) := by decide +kernel
theorem dJ9_min_7cf53_0 : decode cJ9_min_7cf53 0 = .ok (.iload_n 0, 1) := by decide +kernel
theorem dJ9_min_7cf53_1 : decode cJ9_min_7cf53 1 = .ok (.iload_n 1, 1) := by decide +kernel
theorem dJ9_min_7cf53_2 : decode cJ9_min_7cf53 2 = .ok (.if_icmp .gt 7, 3) := by decide +kernel
theorem dJ9_min_7cf53_5 : decode cJ9_min_7cf53 5 = .ok (.iload_n 0, 1) := by decide +kernel
theorem dJ9_min_7cf53_6 : decode cJ9_min_7cf53 6 = .ok (.goto 4, 3) := by decide +kernel
theorem dJ9_min_7cf53_9 : decode cJ9_min_7cf53 9 = .ok (.iload_n 1, 1) := by decide +kernel
theorem dJ9_min_7cf53_10 : decode cJ9_min_7cf53 10 = .ok (.ireturn, 1) := by decide +kernel
theorem dJ0_length_8abf5_0 : decode cJ0_length_8abf5 0 = .ok (.aload_n 0, 1) := by decide +kernel
theorem dJ0_length_8abf5_1 : decode cJ0_length_8abf5 1 = .ok (.getfield 9, 3) := by decide +kernel
theorem dJ0_length_8abf5_4 : decode cJ0_length_8abf5 4 = .ok (.arraylength, 1) := by decide +kernel
theorem dJ0_length_8abf5_5 : decode cJ0_length_8abf5 5 = .ok (.aload_n 0, 1) := by decide +kernel
theorem dJ0_length_8abf5_6 : decode cJ0_length_8abf5 6 = .ok (.invokevirtual 335, 3) := by decide +kernel
theorem dJ0_length_8abf5_9 : decode cJ0_length_8abf5 9 = .ok (.ishr, 1) := by decide +kernel
theorem dJ0_length_8abf5_10 : decode cJ0_length_8abf5 10 = .ok (.ireturn, 1) := by decide +kernel
theorem dJ0_charAt_5068e_0 : decode cJ0_charAt_5068e 0 = .ok (.aload_n 0, 1) := by decide +kernel
theorem dJ0_charAt_5068e_1 : decode cJ0_charAt_5068e 1 = .ok (.invokevirtual 492, 3) := by decide +kernel
theorem dJ0_charAt_5068e_4 : decode cJ0_charAt_5068e 4 = .ok (.ifCond .eq 12, 3) := by decide +kernel
theorem dJ0_charAt_5068e_7 : decode cJ0_charAt_5068e 7 = .ok (.aload_n 0, 1) := by decide +kernel
theorem dJ0_charAt_5068e_8 : decode cJ0_charAt_5068e 8 = .ok (.getfield 9, 3) := by decide +kernel
theorem dJ0_charAt_5068e_11 : decode cJ0_charAt_5068e 11 = .ok (.iload_n 1, 1) := by decide +kernel
theorem dJ0_charAt_5068e_12 : decode cJ0_charAt_5068e 12 = .ok (.invokestatic 495, 3) := by decide +kernel
theorem dJ0_charAt_5068e_15 : decode cJ0_charAt_5068e 15 = .ok (.ireturn, 1) := by decide +kernel
theorem dJ0_charAt_5068e_16 : decode cJ0_charAt_5068e 16 = .ok (.aload_n 0, 1) := by decide +kernel
theorem dJ0_charAt_5068e_17 : decode cJ0_charAt_5068e 17 = .ok (.getfield 9, 3) := by decide +kernel
theorem dJ0_charAt_5068e_20 : decode cJ0_charAt_5068e 20 = .ok (.iload_n 1, 1) := by decide +kernel
theorem dJ0_charAt_5068e_21 : decode cJ0_charAt_5068e 21 = .ok (.invokestatic 498, 3) := by decide +kernel
theorem dJ0_charAt_5068e_24 : decode cJ0_charAt_5068e 24 = .ok (.ireturn, 1) := by decide +kernel
theorem dJ0_coder_7d493_0 : decode cJ0_coder_7d493 0 = .ok (.getstatic 38, 3) := by decide +kernel
theorem dJ0_coder_7d493_3 : decode cJ0_coder_7d493 3 = .ok (.ifCond .eq 10, 3) := by decide +kernel
theorem dJ0_coder_7d493_6 : decode cJ0_coder_7d493 6 = .ok (.aload_n 0, 1) := by decide +kernel
theorem dJ0_coder_7d493_7 : decode cJ0_coder_7d493 7 = .ok (.getfield 15, 3) := by decide +kernel
theorem dJ0_coder_7d493_10 : decode cJ0_coder_7d493 10 = .ok (.goto 4, 3) := by decide +kernel
theorem dJ0_coder_7d493_13 : decode cJ0_coder_7d493 13 = .ok (.iconst 1, 1) := by decide +kernel
theorem dJ0_coder_7d493_14 : decode cJ0_coder_7d493 14 = .ok (.ireturn, 1) := by decide +kernel
theorem dJ0_isLatin1_aae02_0 : decode cJ0_isLatin1_aae02 0 = .ok (.getstatic 38, 3) := by decide +kernel
theorem dJ0_isLatin1_aae02_3 : decode cJ0_isLatin1_aae02 3 = .ok (.ifCond .eq 14, 3) := by decide +kernel
theorem dJ0_isLatin1_aae02_6 : decode cJ0_isLatin1_aae02 6 = .ok (.aload_n 0, 1) := by decide +kernel
theorem dJ0_isLatin1_aae02_7 : decode cJ0_isLatin1_aae02 7 = .ok (.getfield 15, 3) := by decide +kernel
theorem dJ0_isLatin1_aae02_10 : decode cJ0_isLatin1_aae02 10 = .ok (.ifCond .ne 7, 3) := by decide +kernel
theorem dJ0_isLatin1_aae02_13 : decode cJ0_isLatin1_aae02 13 = .ok (.iconst 1, 1) := by decide +kernel
theorem dJ0_isLatin1_aae02_14 : decode cJ0_isLatin1_aae02 14 = .ok (.goto 4, 3) := by decide +kernel
theorem dJ0_isLatin1_aae02_17 : decode cJ0_isLatin1_aae02 17 = .ok (.iconst 0, 1) := by decide +kernel
theorem dJ0_isLatin1_aae02_18 : decode cJ0_isLatin1_aae02 18 = .ok (.ireturn, 1) := by decide +kernel
theorem dJ0_checkIndex_df160_0 : decode cJ0_checkIndex_df160 0 = .ok (.iload_n 0, 1) := by decide +kernel
theorem dJ0_checkIndex_df160_1 : decode cJ0_checkIndex_df160 1 = .ok (.iload_n 1, 1) := by decide +kernel
theorem dJ0_checkIndex_df160_2 : decode cJ0_checkIndex_df160 2 = .ok (.getstatic 1053, 3) := by decide +kernel
theorem dJ0_checkIndex_df160_5 : decode cJ0_checkIndex_df160 5 = .ok (.invokestatic 1059, 3) := by decide +kernel
theorem dJ0_checkIndex_df160_8 : decode cJ0_checkIndex_df160 8 = .ok (.pop, 1) := by decide +kernel
theorem dJ0_checkIndex_df160_9 : decode cJ0_checkIndex_df160 9 = .ok (.return_, 1) := by decide +kernel
theorem dJ1_charAt_3b067_0 : decode cJ1_charAt_3b067 0 = .ok (.iload_n 1, 1) := by decide +kernel
theorem dJ1_charAt_3b067_1 : decode cJ1_charAt_3b067 1 = .ok (.aload_n 0, 1) := by decide +kernel
theorem dJ1_charAt_3b067_2 : decode cJ1_charAt_3b067 2 = .ok (.arraylength, 1) := by decide +kernel
theorem dJ1_charAt_3b067_3 : decode cJ1_charAt_3b067 3 = .ok (.invokestatic 9, 3) := by decide +kernel
theorem dJ1_charAt_3b067_6 : decode cJ1_charAt_3b067 6 = .ok (.aload_n 0, 1) := by decide +kernel
theorem dJ1_charAt_3b067_7 : decode cJ1_charAt_3b067 7 = .ok (.iload_n 1, 1) := by decide +kernel
theorem dJ1_charAt_3b067_8 : decode cJ1_charAt_3b067 8 = .ok (.baload, 1) := by decide +kernel
theorem dJ1_charAt_3b067_9 : decode cJ1_charAt_3b067 9 = .ok (.sipush 255, 3) := by decide +kernel
theorem dJ1_charAt_3b067_12 : decode cJ1_charAt_3b067 12 = .ok (.iand, 1) := by decide +kernel
theorem dJ1_charAt_3b067_13 : decode cJ1_charAt_3b067 13 = .ok (.i2c, 1) := by decide +kernel
theorem dJ1_charAt_3b067_14 : decode cJ1_charAt_3b067 14 = .ok (.ireturn, 1) := by decide +kernel
theorem dJ2_getChar_3b067_0 : decode cJ2_getChar_3b067 0 = .ok (.getstatic 44, 3) := by decide +kernel
theorem dJ2_getChar_3b067_3 : decode cJ2_getChar_3b067 3 = .ok (.ifCond .ne 25, 3) := by decide +kernel
theorem dJ2_getChar_3b067_6 : decode cJ2_getChar_3b067 6 = .ok (.iload_n 1, 1) := by decide +kernel
theorem dJ2_getChar_3b067_7 : decode cJ2_getChar_3b067 7 = .ok (.ifCond .lt 11, 3) := by decide +kernel
theorem dJ2_getChar_3b067_10 : decode cJ2_getChar_3b067 10 = .ok (.iload_n 1, 1) := by decide +kernel
theorem dJ2_getChar_3b067_11 : decode cJ2_getChar_3b067 11 = .ok (.aload_n 0, 1) := by decide +kernel
theorem dJ2_getChar_3b067_12 : decode cJ2_getChar_3b067 12 = .ok (.invokestatic 48, 3) := by decide +kernel
theorem dJ2_getChar_3b067_15 : decode cJ2_getChar_3b067 15 = .ok (.if_icmp .lt 13, 3) := by decide +kernel
theorem dJ2_getChar_3b067_18 : decode cJ2_getChar_3b067 18 = .ok (.new 52, 3) := by decide +kernel
theorem dJ2_getChar_3b067_21 : decode cJ2_getChar_3b067 21 = .ok (.dup, 1) := by decide +kernel
theorem dJ2_getChar_3b067_22 : decode cJ2_getChar_3b067 22 = .ok (.ldc 54, 2) := by decide +kernel
theorem dJ2_getChar_3b067_24 : decode cJ2_getChar_3b067 24 = .ok (.invokespecial 56, 3) := by decide +kernel
theorem dJ2_getChar_3b067_27 : decode cJ2_getChar_3b067 27 = .ok (.athrow, 1) := by decide +kernel
theorem dJ2_getChar_3b067_28 : decode cJ2_getChar_3b067 28 = .ok (.iload_n 1, 1) := by decide +kernel
theorem dJ2_getChar_3b067_29 : decode cJ2_getChar_3b067 29 = .ok (.iconst 1, 1) := by decide +kernel
theorem dJ2_getChar_3b067_30 : decode cJ2_getChar_3b067 30 = .ok (.ishl, 1) := by decide +kernel
theorem dJ2_getChar_3b067_31 : decode cJ2_getChar_3b067 31 = .ok (.istore_n 1, 1) := by decide +kernel
theorem dJ2_getChar_3b067_32 : decode cJ2_getChar_3b067 32 = .ok (.aload_n 0, 1) := by decide +kernel
theorem dJ2_getChar_3b067_33 : decode cJ2_getChar_3b067 33 = .ok (.iload_n 1, 1) := by decide +kernel
theorem dJ2_getChar_3b067_34 : decode cJ2_getChar_3b067 34 = .ok (.iinc 1 1, 3) := by decide +kernel
theorem dJ2_getChar_3b067_37 : decode cJ2_getChar_3b067 37 = .ok (.baload, 1) := by decide +kernel
theorem dJ2_getChar_3b067_38 : decode cJ2_getChar_3b067 38 = .ok (.sipush 255, 3) := by decide +kernel
theorem dJ2_getChar_3b067_41 : decode cJ2_getChar_3b067 41 = .ok (.iand, 1) := by decide +kernel
theorem dJ2_getChar_3b067_42 : decode cJ2_getChar_3b067 42 = .ok (.getstatic 59, 3) := by decide +kernel
theorem dJ2_getChar_3b067_45 : decode cJ2_getChar_3b067 45 = .ok (.ishl, 1) := by decide +kernel
theorem dJ2_getChar_3b067_46 : decode cJ2_getChar_3b067 46 = .ok (.aload_n 0, 1) := by decide +kernel
theorem dJ2_getChar_3b067_47 : decode cJ2_getChar_3b067 47 = .ok (.iload_n 1, 1) := by decide +kernel
theorem dJ2_getChar_3b067_48 : decode cJ2_getChar_3b067 48 = .ok (.baload, 1) := by decide +kernel
theorem dJ2_getChar_3b067_49 : decode cJ2_getChar_3b067 49 = .ok (.sipush 255, 3) := by decide +kernel
theorem dJ2_getChar_3b067_52 : decode cJ2_getChar_3b067 52 = .ok (.iand, 1) := by decide +kernel
theorem dJ2_getChar_3b067_53 : decode cJ2_getChar_3b067 53 = .ok (.getstatic 63, 3) := by decide +kernel
theorem dJ2_getChar_3b067_56 : decode cJ2_getChar_3b067 56 = .ok (.ishl, 1) := by decide +kernel
theorem dJ2_getChar_3b067_57 : decode cJ2_getChar_3b067 57 = .ok (.ior, 1) := by decide +kernel
theorem dJ2_getChar_3b067_58 : decode cJ2_getChar_3b067 58 = .ok (.i2c, 1) := by decide +kernel
theorem dJ2_getChar_3b067_59 : decode cJ2_getChar_3b067 59 = .ok (.ireturn, 1) := by decide +kernel
theorem dJ2_length_9d52b_0 : decode cJ2_length_9d52b 0 = .ok (.aload_n 0, 1) := by decide +kernel
theorem dJ2_length_9d52b_1 : decode cJ2_length_9d52b 1 = .ok (.arraylength, 1) := by decide +kernel
theorem dJ2_length_9d52b_2 : decode cJ2_length_9d52b 2 = .ok (.iconst 1, 1) := by decide +kernel
theorem dJ2_length_9d52b_3 : decode cJ2_length_9d52b 3 = .ok (.ishr, 1) := by decide +kernel
theorem dJ2_length_9d52b_4 : decode cJ2_length_9d52b 4 = .ok (.ireturn, 1) := by decide +kernel
theorem dJ2_charAt_3b067_0 : decode cJ2_charAt_3b067 0 = .ok (.iload_n 1, 1) := by decide +kernel
theorem dJ2_charAt_3b067_1 : decode cJ2_charAt_3b067 1 = .ok (.aload_n 0, 1) := by decide +kernel
theorem dJ2_charAt_3b067_2 : decode cJ2_charAt_3b067 2 = .ok (.invokestatic 67, 3) := by decide +kernel
theorem dJ2_charAt_3b067_5 : decode cJ2_charAt_3b067 5 = .ok (.aload_n 0, 1) := by decide +kernel
theorem dJ2_charAt_3b067_6 : decode cJ2_charAt_3b067 6 = .ok (.iload_n 1, 1) := by decide +kernel
theorem dJ2_charAt_3b067_7 : decode cJ2_charAt_3b067 7 = .ok (.invokestatic 71, 3) := by decide +kernel
theorem dJ2_charAt_3b067_10 : decode cJ2_charAt_3b067 10 = .ok (.ireturn, 1) := by decide +kernel
theorem dJ2_checkIndex_2214a_0 : decode cJ2_checkIndex_2214a 0 = .ok (.iload_n 0, 1) := by decide +kernel
theorem dJ2_checkIndex_2214a_1 : decode cJ2_checkIndex_2214a 1 = .ok (.aload_n 1, 1) := by decide +kernel
theorem dJ2_checkIndex_2214a_2 : decode cJ2_checkIndex_2214a 2 = .ok (.invokestatic 48, 3) := by decide +kernel
theorem dJ2_checkIndex_2214a_5 : decode cJ2_checkIndex_2214a 5 = .ok (.invokestatic 414, 3) := by decide +kernel
theorem dJ2_checkIndex_2214a_8 : decode cJ2_checkIndex_2214a 8 = .ok (.return_, 1) := by decide +kernel
theorem dJ3_checkIndex_8e157_0 : decode cJ3_checkIndex_8e157 0 = .ok (.iload_n 0, 1) := by decide +kernel
theorem dJ3_checkIndex_8e157_1 : decode cJ3_checkIndex_8e157 1 = .ok (.ifCond .lt 8, 3) := by decide +kernel
theorem dJ3_checkIndex_8e157_4 : decode cJ3_checkIndex_8e157 4 = .ok (.iload_n 0, 1) := by decide +kernel
theorem dJ3_checkIndex_8e157_5 : decode cJ3_checkIndex_8e157 5 = .ok (.iload_n 1, 1) := by decide +kernel
theorem dJ3_checkIndex_8e157_6 : decode cJ3_checkIndex_8e157 6 = .ok (.if_icmp .lt 10, 3) := by decide +kernel
theorem dJ3_checkIndex_8e157_9 : decode cJ3_checkIndex_8e157 9 = .ok (.aload_n 2, 1) := by decide +kernel
theorem dJ3_checkIndex_8e157_10 : decode cJ3_checkIndex_8e157 10 = .ok (.iload_n 0, 1) := by decide +kernel
theorem dJ3_checkIndex_8e157_11 : decode cJ3_checkIndex_8e157 11 = .ok (.iload_n 1, 1) := by decide +kernel
theorem dJ3_checkIndex_8e157_12 : decode cJ3_checkIndex_8e157 12 = .ok (.invokestatic 95, 3) := by decide +kernel
theorem dJ3_checkIndex_8e157_15 : decode cJ3_checkIndex_8e157 15 = .ok (.athrow, 1) := by decide +kernel
theorem dJ3_checkIndex_8e157_16 : decode cJ3_checkIndex_8e157 16 = .ok (.iload_n 0, 1) := by decide +kernel
theorem dJ3_checkIndex_8e157_17 : decode cJ3_checkIndex_8e157 17 = .ok (.ireturn, 1) := by decide +kernel
end
section
theorem dX9_bad_0 : decode cX9_bad 0 = .ok (.aload_n 0, 1) := by decide +kernel
theorem dX9_bad_1 : decode cX9_bad 1 = .ok (.getfield 1, 3) := by decide +kernel
theorem dX9_bad_4 : decode cX9_bad 4 = .ok (.iconst 0, 1) := by decide +kernel
theorem dX9_bad_5 : decode cX9_bad 5 = .ok (.dup2, 1) := by decide +kernel
theorem dX9_bad_6 : decode cX9_bad 6 = .ok (.iaload, 1) := by decide +kernel
theorem dX9_bad_7 : decode cX9_bad 7 = .ok (.iconst 1, 1) := by decide +kernel
theorem dX9_bad_8 : decode cX9_bad 8 = .ok (.iadd, 1) := by decide +kernel
theorem dX9_bad_9 : decode cX9_bad 9 = .ok (.iastore, 1) := by decide +kernel
theorem dX9_bad_10 : decode cX9_bad 10 = .ok (.bipush (-2), 2) := by decide +kernel
theorem dX9_bad_12 : decode cX9_bad 12 = .ok (.ireturn, 1) := by decide +kernel
theorem dX9_no_0 : decode cX9_no 0 = .ok (.aload_n 0, 1) := by decide +kernel
theorem dX9_no_1 : decode cX9_no 1 = .ok (.getfield 1, 3) := by decide +kernel
theorem dX9_no_4 : decode cX9_no 4 = .ok (.iconst 1, 1) := by decide +kernel
theorem dX9_no_5 : decode cX9_no 5 = .ok (.dup2, 1) := by decide +kernel
theorem dX9_no_6 : decode cX9_no 6 = .ok (.iaload, 1) := by decide +kernel
theorem dX9_no_7 : decode cX9_no 7 = .ok (.iconst 1, 1) := by decide +kernel
theorem dX9_no_8 : decode cX9_no 8 = .ok (.iadd, 1) := by decide +kernel
theorem dX9_no_9 : decode cX9_no 9 = .ok (.iastore, 1) := by decide +kernel
theorem dX9_no_10 : decode cX9_no 10 = .ok (.bipush (-3), 2) := by decide +kernel
theorem dX9_no_12 : decode cX9_no 12 = .ok (.ireturn, 1) := by decide +kernel
theorem dX9_full_0 : decode cX9_full 0 = .ok (.aload_n 0, 1) := by decide +kernel
theorem dX9_full_1 : decode cX9_full 1 = .ok (.getfield 1, 3) := by decide +kernel
theorem dX9_full_4 : decode cX9_full 4 = .ok (.iconst 2, 1) := by decide +kernel
theorem dX9_full_5 : decode cX9_full 5 = .ok (.dup2, 1) := by decide +kernel
theorem dX9_full_6 : decode cX9_full 6 = .ok (.iaload, 1) := by decide +kernel
theorem dX9_full_7 : decode cX9_full 7 = .ok (.iconst 1, 1) := by decide +kernel
theorem dX9_full_8 : decode cX9_full 8 = .ok (.iadd, 1) := by decide +kernel
theorem dX9_full_9 : decode cX9_full 9 = .ok (.iastore, 1) := by decide +kernel
theorem dX9_full_10 : decode cX9_full 10 = .ok (.bipush (-4), 2) := by decide +kernel
theorem dX9_full_12 : decode cX9_full 12 = .ok (.ireturn, 1) := by decide +kernel
theorem dX9_in_0 : decode cX9_in 0 = .ok (.iload_n 0, 1) := by decide +kernel
theorem dX9_in_1 : decode cX9_in 1 = .ok (.iload_n 1, 1) := by decide +kernel
theorem dX9_in_2 : decode cX9_in 2 = .ok (.if_icmp .lt 12, 3) := by decide +kernel
theorem dX9_in_5 : decode cX9_in 5 = .ok (.iload_n 0, 1) := by decide +kernel
theorem dX9_in_6 : decode cX9_in 6 = .ok (.iload_n 2, 1) := by decide +kernel
theorem dX9_in_7 : decode cX9_in 7 = .ok (.if_icmp .gt 7, 3) := by decide +kernel
theorem dX9_in_10 : decode cX9_in 10 = .ok (.iconst 1, 1) := by decide +kernel
theorem dX9_in_11 : decode cX9_in 11 = .ok (.goto 4, 3) := by decide +kernel
theorem dX9_in_14 : decode cX9_in 14 = .ok (.iconst 0, 1) := by decide +kernel
theorem dX9_in_15 : decode cX9_in 15 = .ok (.ireturn, 1) := by decide +kernel
theorem dX9_has_0 : decode cX9_has 0 = .ok (.iload_n 0, 1) := by decide +kernel
theorem dX9_has_1 : decode cX9_has 1 = .ok (.iload_n 1, 1) := by decide +kernel
theorem dX9_has_2 : decode cX9_has 2 = .ok (.ishr, 1) := by decide +kernel
theorem dX9_has_3 : decode cX9_has 3 = .ok (.iconst 1, 1) := by decide +kernel
theorem dX9_has_4 : decode cX9_has 4 = .ok (.iand, 1) := by decide +kernel
theorem dX9_has_5 : decode cX9_has 5 = .ok (.iconst 1, 1) := by decide +kernel
theorem dX9_has_6 : decode cX9_has 6 = .ok (.if_icmp .ne 7, 3) := by decide +kernel
theorem dX9_has_9 : decode cX9_has 9 = .ok (.iconst 1, 1) := by decide +kernel
theorem dX9_has_10 : decode cX9_has 10 = .ok (.goto 4, 3) := by decide +kernel
theorem dX9_has_13 : decode cX9_has 13 = .ok (.iconst 0, 1) := by decide +kernel
theorem dX9_has_14 : decode cX9_has 14 = .ok (.ireturn, 1) := by decide +kernel
theorem dX9_lesser_0 : decode cX9_lesser 0 = .ok (.iload_n 0, 1) := by decide +kernel
theorem dX9_lesser_1 : decode cX9_lesser 1 = .ok (.iload_n 1, 1) := by decide +kernel
theorem dX9_lesser_2 : decode cX9_lesser 2 = .ok (.if_icmp .ge 7, 3) := by decide +kernel
theorem dX9_lesser_5 : decode cX9_lesser 5 = .ok (.iload_n 0, 1) := by decide +kernel
theorem dX9_lesser_6 : decode cX9_lesser 6 = .ok (.goto 4, 3) := by decide +kernel
theorem dX9_lesser_9 : decode cX9_lesser 9 = .ok (.iload_n 1, 1) := by decide +kernel
theorem dX9_lesser_10 : decode cX9_lesser 10 = .ok (.ireturn, 1) := by decide +kernel
theorem dX9_greater_0 : decode cX9_greater 0 = .ok (.iload_n 0, 1) := by decide +kernel
theorem dX9_greater_1 : decode cX9_greater 1 = .ok (.iload_n 1, 1) := by decide +kernel
theorem dX9_greater_2 : decode cX9_greater 2 = .ok (.if_icmp .le 7, 3) := by decide +kernel
theorem dX9_greater_5 : decode cX9_greater 5 = .ok (.iload_n 0, 1) := by decide +kernel
theorem dX9_greater_6 : decode cX9_greater 6 = .ok (.goto 4, 3) := by decide +kernel
theorem dX9_greater_9 : decode cX9_greater 9 = .ok (.iload_n 1, 1) := by decide +kernel
theorem dX9_greater_10 : decode cX9_greater 10 = .ok (.ireturn, 1) := by decide +kernel
theorem dX9_bits_0 : decode cX9_bits 0 = .ok (.iconst 0, 1) := by decide +kernel
theorem dX9_bits_1 : decode cX9_bits 1 = .ok (.istore_n 1, 1) := by decide +kernel
theorem dX9_bits_2 : decode cX9_bits 2 = .ok (.iconst 0, 1) := by decide +kernel
theorem dX9_bits_3 : decode cX9_bits 3 = .ok (.istore_n 2, 1) := by decide +kernel
theorem dX9_bits_4 : decode cX9_bits 4 = .ok (.iload_n 2, 1) := by decide +kernel
theorem dX9_bits_5 : decode cX9_bits 5 = .ok (.bipush 8, 2) := by decide +kernel
theorem dX9_bits_7 : decode cX9_bits 7 = .ok (.if_icmp .ge 17, 3) := by decide +kernel
theorem dX9_bits_10 : decode cX9_bits 10 = .ok (.iload_n 1, 1) := by decide +kernel
theorem dX9_bits_11 : decode cX9_bits 11 = .ok (.iload_n 0, 1) := by decide +kernel
theorem dX9_bits_12 : decode cX9_bits 12 = .ok (.iload_n 2, 1) := by decide +kernel
theorem dX9_bits_13 : decode cX9_bits 13 = .ok (.ishr, 1) := by decide +kernel
theorem dX9_bits_14 : decode cX9_bits 14 = .ok (.iconst 1, 1) := by decide +kernel
theorem dX9_bits_15 : decode cX9_bits 15 = .ok (.iand, 1) := by decide +kernel
theorem dX9_bits_16 : decode cX9_bits 16 = .ok (.iadd, 1) := by decide +kernel
theorem dX9_bits_17 : decode cX9_bits 17 = .ok (.istore_n 1, 1) := by decide +kernel
theorem dX9_bits_18 : decode cX9_bits 18 = .ok (.iinc 2 1, 3) := by decide +kernel
theorem dX9_bits_21 : decode cX9_bits 21 = .ok (.goto (-17), 3) := by decide +kernel
theorem dX9_bits_24 : decode cX9_bits 24 = .ok (.iload_n 1, 1) := by decide +kernel
theorem dX9_bits_25 : decode cX9_bits 25 = .ok (.ireturn, 1) := by decide +kernel
theorem dX9_init_0 : decode cX9_init 0 = .ok (.aload_n 0, 1) := by decide +kernel
theorem dX9_init_1 : decode cX9_init 1 = .ok (.invokespecial 7, 3) := by decide +kernel
theorem dX9_init_4 : decode cX9_init 4 = .ok (.aload_n 0, 1) := by decide +kernel
theorem dX9_init_5 : decode cX9_init 5 = .ok (.iconst 3, 1) := by decide +kernel
theorem dX9_init_6 : decode cX9_init 6 = .ok (.newarray .int, 2) := by decide +kernel
theorem dX9_init_8 : decode cX9_init 8 = .ok (.putfield 1, 3) := by decide +kernel
theorem dX9_init_11 : decode cX9_init 11 = .ok (.aload_n 0, 1) := by decide +kernel
theorem dX9_init_12 : decode cX9_init 12 = .ok (.bipush 6, 2) := by decide +kernel
theorem dX9_init_14 : decode cX9_init 14 = .ok (.newarray .int, 2) := by decide +kernel
theorem dX9_init_16 : decode cX9_init 16 = .ok (.putfield 13, 3) := by decide +kernel
theorem dX9_init_19 : decode cX9_init 19 = .ok (.aload_n 0, 1) := by decide +kernel
theorem dX9_init_20 : decode cX9_init 20 = .ok (.bipush 6, 2) := by decide +kernel
theorem dX9_init_22 : decode cX9_init 22 = .ok (.newarray .int, 2) := by decide +kernel
theorem dX9_init_24 : decode cX9_init 24 = .ok (.putfield 16, 3) := by decide +kernel
theorem dX9_init_27 : decode cX9_init 27 = .ok (.aload_n 0, 1) := by decide +kernel
theorem dX9_init_28 : decode cX9_init 28 = .ok (.bipush 6, 2) := by decide +kernel
theorem dX9_init_30 : decode cX9_init 30 = .ok (.newarray .int, 2) := by decide +kernel
theorem dX9_init_32 : decode cX9_init 32 = .ok (.putfield 19, 3) := by decide +kernel
theorem dX9_init_35 : decode cX9_init 35 = .ok (.aload_n 0, 1) := by decide +kernel
theorem dX9_init_36 : decode cX9_init 36 = .ok (.bipush 6, 2) := by decide +kernel
theorem dX9_init_38 : decode cX9_init 38 = .ok (.newarray .int, 2) := by decide +kernel
theorem dX9_init_40 : decode cX9_init 40 = .ok (.putfield 22, 3) := by decide +kernel
theorem dX9_init_43 : decode cX9_init 43 = .ok (.aload_n 0, 1) := by decide +kernel
theorem dX9_init_44 : decode cX9_init 44 = .ok (.bipush 8, 2) := by decide +kernel
theorem dX9_init_46 : decode cX9_init 46 = .ok (.newarray .int, 2) := by decide +kernel
theorem dX9_init_48 : decode cX9_init 48 = .ok (.putfield 25, 3) := by decide +kernel
theorem dX9_init_51 : decode cX9_init 51 = .ok (.aload_n 0, 1) := by decide +kernel
theorem dX9_init_52 : decode cX9_init 52 = .ok (.bipush 18, 2) := by decide +kernel
theorem dX9_init_54 : decode cX9_init 54 = .ok (.newarray .int, 2) := by decide +kernel
theorem dX9_init_56 : decode cX9_init 56 = .ok (.putfield 28, 3) := by decide +kernel
theorem dX9_init_59 : decode cX9_init 59 = .ok (.aload_n 0, 1) := by decide +kernel
theorem dX9_init_60 : decode cX9_init 60 = .ok (.bipush 24, 2) := by decide +kernel
theorem dX9_init_62 : decode cX9_init 62 = .ok (.newarray .int, 2) := by decide +kernel
theorem dX9_init_64 : decode cX9_init 64 = .ok (.putfield 31, 3) := by decide +kernel
theorem dX9_init_67 : decode cX9_init 67 = .ok (.aload_n 0, 1) := by decide +kernel
theorem dX9_init_68 : decode cX9_init 68 = .ok (.bipush 24, 2) := by decide +kernel
theorem dX9_init_70 : decode cX9_init 70 = .ok (.newarray .int, 2) := by decide +kernel
theorem dX9_init_72 : decode cX9_init 72 = .ok (.putfield 34, 3) := by decide +kernel
theorem dX9_init_75 : decode cX9_init 75 = .ok (.aload_n 0, 1) := by decide +kernel
theorem dX9_init_76 : decode cX9_init 76 = .ok (.sipush 150, 3) := by decide +kernel
theorem dX9_init_79 : decode cX9_init 79 = .ok (.newarray .int, 2) := by decide +kernel
theorem dX9_init_81 : decode cX9_init 81 = .ok (.putfield 37, 3) := by decide +kernel
theorem dX9_init_84 : decode cX9_init 84 = .ok (.aload_n 0, 1) := by decide +kernel
theorem dX9_init_85 : decode cX9_init 85 = .ok (.sipush 300, 3) := by decide +kernel
theorem dX9_init_88 : decode cX9_init 88 = .ok (.newarray .int, 2) := by decide +kernel
theorem dX9_init_90 : decode cX9_init 90 = .ok (.putfield 40, 3) := by decide +kernel
theorem dX9_init_93 : decode cX9_init 93 = .ok (.aload_n 0, 1) := by decide +kernel
theorem dX9_init_94 : decode cX9_init 94 = .ok (.sipush 176, 3) := by decide +kernel
theorem dX9_init_97 : decode cX9_init 97 = .ok (.newarray .int, 2) := by decide +kernel
theorem dX9_init_99 : decode cX9_init 99 = .ok (.putfield 43, 3) := by decide +kernel
theorem dX9_init_102 : decode cX9_init 102 = .ok (.aload_n 0, 1) := by decide +kernel
theorem dX9_init_103 : decode cX9_init 103 = .ok (.bipush 22, 2) := by decide +kernel
theorem dX9_init_105 : decode cX9_init 105 = .ok (.newarray .int, 2) := by decide +kernel
theorem dX9_init_107 : decode cX9_init 107 = .ok (.putfield 46, 3) := by decide +kernel
theorem dX9_init_110 : decode cX9_init 110 = .ok (.aload_n 0, 1) := by decide +kernel
theorem dX9_init_111 : decode cX9_init 111 = .ok (.sipush 164, 3) := by decide +kernel
theorem dX9_init_114 : decode cX9_init 114 = .ok (.newarray .long, 2) := by decide +kernel
theorem dX9_init_116 : decode cX9_init 116 = .ok (.putfield 49, 3) := by decide +kernel
theorem dX9_init_119 : decode cX9_init 119 = .ok (.aload_n 0, 1) := by decide +kernel
theorem dX9_init_120 : decode cX9_init 120 = .ok (.bipush 24, 2) := by decide +kernel
theorem dX9_init_122 : decode cX9_init 122 = .ok (.newarray .int, 2) := by decide +kernel
theorem dX9_init_124 : decode cX9_init 124 = .ok (.putfield 53, 3) := by decide +kernel
theorem dX9_init_127 : decode cX9_init 127 = .ok (.aload_n 0, 1) := by decide +kernel
theorem dX9_init_128 : decode cX9_init 128 = .ok (.lconst 1, 1) := by decide +kernel
theorem dX9_init_129 : decode cX9_init 129 = .ok (.putfield 56, 3) := by decide +kernel
theorem dX9_init_132 : decode cX9_init 132 = .ok (.aload_n 0, 1) := by decide +kernel
theorem dX9_init_133 : decode cX9_init 133 = .ok (.sipush 600, 3) := by decide +kernel
theorem dX9_init_136 : decode cX9_init 136 = .ok (.newarray .int, 2) := by decide +kernel
theorem dX9_init_138 : decode cX9_init 138 = .ok (.putfield 60, 3) := by decide +kernel
theorem dX9_init_141 : decode cX9_init 141 = .ok (.aload_n 0, 1) := by decide +kernel
theorem dX9_init_142 : decode cX9_init 142 = .ok (.iconst 2, 1) := by decide +kernel
theorem dX9_init_143 : decode cX9_init 143 = .ok (.newarray .int, 2) := by decide +kernel
theorem dX9_init_145 : decode cX9_init 145 = .ok (.putfield 63, 3) := by decide +kernel
theorem dX9_init_148 : decode cX9_init 148 = .ok (.aload_n 0, 1) := by decide +kernel
theorem dX9_init_149 : decode cX9_init 149 = .ok (.invokevirtual 66, 3) := by decide +kernel
theorem dX9_init_152 : decode cX9_init 152 = .ok (.return_, 1) := by decide +kernel
theorem dX9_begin_0 : decode cX9_begin 0 = .ok (.aload_n 0, 1) := by decide +kernel
theorem dX9_begin_1 : decode cX9_begin 1 = .ok (.iconst 0, 1) := by decide +kernel
theorem dX9_begin_2 : decode cX9_begin 2 = .ok (.putfield 69, 3) := by decide +kernel
theorem dX9_begin_5 : decode cX9_begin 5 = .ok (.aload_n 0, 1) := by decide +kernel
theorem dX9_begin_6 : decode cX9_begin 6 = .ok (.iconst 0, 1) := by decide +kernel
theorem dX9_begin_7 : decode cX9_begin 7 = .ok (.putfield 73, 3) := by decide +kernel
theorem dX9_begin_10 : decode cX9_begin 10 = .ok (.aload_n 0, 1) := by decide +kernel
theorem dX9_begin_11 : decode cX9_begin 11 = .ok (.iconst 0, 1) := by decide +kernel
theorem dX9_begin_12 : decode cX9_begin 12 = .ok (.putfield 76, 3) := by decide +kernel
theorem dX9_begin_15 : decode cX9_begin 15 = .ok (.aload_n 0, 1) := by decide +kernel
theorem dX9_begin_16 : decode cX9_begin 16 = .ok (.iconst 0, 1) := by decide +kernel
theorem dX9_begin_17 : decode cX9_begin 17 = .ok (.putfield 79, 3) := by decide +kernel
theorem dX9_begin_20 : decode cX9_begin 20 = .ok (.aload_n 0, 1) := by decide +kernel
theorem dX9_begin_21 : decode cX9_begin 21 = .ok (.iconst 0, 1) := by decide +kernel
theorem dX9_begin_22 : decode cX9_begin 22 = .ok (.putfield 82, 3) := by decide +kernel
theorem dX9_begin_25 : decode cX9_begin 25 = .ok (.aload_n 0, 1) := by decide +kernel
theorem dX9_begin_26 : decode cX9_begin 26 = .ok (.iconst 0, 1) := by decide +kernel
theorem dX9_begin_27 : decode cX9_begin 27 = .ok (.putfield 85, 3) := by decide +kernel
theorem dX9_begin_30 : decode cX9_begin 30 = .ok (.aload_n 0, 1) := by decide +kernel
theorem dX9_begin_31 : decode cX9_begin 31 = .ok (.iconst 0, 1) := by decide +kernel
theorem dX9_begin_32 : decode cX9_begin 32 = .ok (.putfield 88, 3) := by decide +kernel
theorem dX9_begin_35 : decode cX9_begin 35 = .ok (.iconst 0, 1) := by decide +kernel
theorem dX9_begin_36 : decode cX9_begin 36 = .ok (.istore_n 1, 1) := by decide +kernel
theorem dX9_begin_37 : decode cX9_begin 37 = .ok (.iload_n 1, 1) := by decide +kernel
theorem dX9_begin_38 : decode cX9_begin 38 = .ok (.bipush 8, 2) := by decide +kernel
theorem dX9_begin_40 : decode cX9_begin 40 = .ok (.if_icmp .ge 16, 3) := by decide +kernel
theorem dX9_begin_43 : decode cX9_begin 43 = .ok (.aload_n 0, 1) := by decide +kernel
theorem dX9_begin_44 : decode cX9_begin 44 = .ok (.getfield 25, 3) := by decide +kernel
theorem dX9_begin_47 : decode cX9_begin 47 = .ok (.iload_n 1, 1) := by decide +kernel
theorem dX9_begin_48 : decode cX9_begin 48 = .ok (.iconst 0, 1) := by decide +kernel
theorem dX9_begin_49 : decode cX9_begin 49 = .ok (.iastore, 1) := by decide +kernel
theorem dX9_begin_50 : decode cX9_begin 50 = .ok (.iinc 1 1, 3) := by decide +kernel
theorem dX9_begin_53 : decode cX9_begin 53 = .ok (.goto (-16), 3) := by decide +kernel
theorem dX9_begin_56 : decode cX9_begin 56 = .ok (.return_, 1) := by decide +kernel
theorem dX9_isOne_0 : decode cX9_isOne 0 = .ok (.iload_n 1, 1) := by decide +kernel
theorem dX9_isOne_1 : decode cX9_isOne 1 = .ok (.iconst 0, 1) := by decide +kernel
theorem dX9_isOne_2 : decode cX9_isOne 2 = .ok (.aload_n 0, 1) := by decide +kernel
theorem dX9_isOne_3 : decode cX9_isOne 3 = .ok (.getfield 69, 3) := by decide +kernel
theorem dX9_isOne_6 : decode cX9_isOne 6 = .ok (.iconst 1, 1) := by decide +kernel
theorem dX9_isOne_7 : decode cX9_isOne 7 = .ok (.isub, 1) := by decide +kernel
theorem dX9_isOne_8 : decode cX9_isOne 8 = .ok (.invokestatic 91, 3) := by decide +kernel
theorem dX9_isOne_11 : decode cX9_isOne 11 = .ok (.ireturn, 1) := by decide +kernel
theorem dX9_isStep_0 : decode cX9_isStep 0 = .ok (.iload_n 0, 1) := by decide +kernel
theorem dX9_isStep_1 : decode cX9_isStep 1 = .ok (.iconst 0, 1) := by decide +kernel
theorem dX9_isStep_2 : decode cX9_isStep 2 = .ok (.bipush 7, 2) := by decide +kernel
theorem dX9_isStep_4 : decode cX9_isStep 4 = .ok (.invokestatic 91, 3) := by decide +kernel
theorem dX9_isStep_7 : decode cX9_isStep 7 = .ok (.ireturn, 1) := by decide +kernel
theorem dX9_house_0 : decode cX9_house 0 = .ok (.aload_n 0, 1) := by decide +kernel
theorem dX9_house_1 : decode cX9_house 1 = .ok (.getfield 69, 3) := by decide +kernel
theorem dX9_house_4 : decode cX9_house 4 = .ok (.istore_n 1, 1) := by decide +kernel
theorem dX9_house_5 : decode cX9_house 5 = .ok (.aload_n 0, 1) := by decide +kernel
theorem dX9_house_6 : decode cX9_house 6 = .ok (.invokevirtual 66, 3) := by decide +kernel
theorem dX9_house_9 : decode cX9_house 9 = .ok (.iload_n 1, 1) := by decide +kernel
theorem dX9_house_10 : decode cX9_house 10 = .ok (.ireturn, 1) := by decide +kernel
theorem dX9_addOne_0 : decode cX9_addOne 0 = .ok (.aload_n 0, 1) := by decide +kernel
theorem dX9_addOne_1 : decode cX9_addOne 1 = .ok (.getfield 13, 3) := by decide +kernel
theorem dX9_addOne_4 : decode cX9_addOne 4 = .ok (.aload_n 0, 1) := by decide +kernel
theorem dX9_addOne_5 : decode cX9_addOne 5 = .ok (.getfield 69, 3) := by decide +kernel
theorem dX9_addOne_8 : decode cX9_addOne 8 = .ok (.iload_n 1, 1) := by decide +kernel
theorem dX9_addOne_9 : decode cX9_addOne 9 = .ok (.iastore, 1) := by decide +kernel
theorem dX9_addOne_10 : decode cX9_addOne 10 = .ok (.aload_n 0, 1) := by decide +kernel
theorem dX9_addOne_11 : decode cX9_addOne 11 = .ok (.getfield 16, 3) := by decide +kernel
theorem dX9_addOne_14 : decode cX9_addOne 14 = .ok (.aload_n 0, 1) := by decide +kernel
theorem dX9_addOne_15 : decode cX9_addOne 15 = .ok (.getfield 69, 3) := by decide +kernel
theorem dX9_addOne_18 : decode cX9_addOne 18 = .ok (.iload_n 2, 1) := by decide +kernel
theorem dX9_addOne_19 : decode cX9_addOne 19 = .ok (.iastore, 1) := by decide +kernel
theorem dX9_addOne_20 : decode cX9_addOne 20 = .ok (.aload_n 0, 1) := by decide +kernel
theorem dX9_addOne_21 : decode cX9_addOne 21 = .ok (.getfield 19, 3) := by decide +kernel
theorem dX9_addOne_24 : decode cX9_addOne 24 = .ok (.aload_n 0, 1) := by decide +kernel
theorem dX9_addOne_25 : decode cX9_addOne 25 = .ok (.getfield 69, 3) := by decide +kernel
theorem dX9_addOne_28 : decode cX9_addOne 28 = .ok (.iconst (-1), 1) := by decide +kernel
theorem dX9_addOne_29 : decode cX9_addOne 29 = .ok (.iastore, 1) := by decide +kernel
theorem dX9_addOne_30 : decode cX9_addOne 30 = .ok (.aload_n 0, 1) := by decide +kernel
theorem dX9_addOne_31 : decode cX9_addOne 31 = .ok (.getfield 22, 3) := by decide +kernel
theorem dX9_addOne_34 : decode cX9_addOne 34 = .ok (.aload_n 0, 1) := by decide +kernel
theorem dX9_addOne_35 : decode cX9_addOne 35 = .ok (.getfield 69, 3) := by decide +kernel
theorem dX9_addOne_38 : decode cX9_addOne 38 = .ok (.iconst 0, 1) := by decide +kernel
theorem dX9_addOne_39 : decode cX9_addOne 39 = .ok (.iastore, 1) := by decide +kernel
theorem dX9_addOne_40 : decode cX9_addOne 40 = .ok (.aload_n 0, 1) := by decide +kernel
theorem dX9_addOne_41 : decode cX9_addOne 41 = .ok (.dup, 1) := by decide +kernel
theorem dX9_addOne_42 : decode cX9_addOne 42 = .ok (.getfield 69, 3) := by decide +kernel
theorem dX9_addOne_45 : decode cX9_addOne 45 = .ok (.iconst 1, 1) := by decide +kernel
theorem dX9_addOne_46 : decode cX9_addOne 46 = .ok (.iadd, 1) := by decide +kernel
theorem dX9_addOne_47 : decode cX9_addOne 47 = .ok (.putfield 69, 3) := by decide +kernel
theorem dX9_addOne_50 : decode cX9_addOne 50 = .ok (.aload_n 0, 1) := by decide +kernel
theorem dX9_addOne_51 : decode cX9_addOne 51 = .ok (.iconst 0, 1) := by decide +kernel
theorem dX9_addOne_52 : decode cX9_addOne 52 = .ok (.putfield 88, 3) := by decide +kernel
theorem dX9_addOne_55 : decode cX9_addOne 55 = .ok (.aload_n 0, 1) := by decide +kernel
theorem dX9_addOne_56 : decode cX9_addOne 56 = .ok (.getfield 69, 3) := by decide +kernel
theorem dX9_addOne_59 : decode cX9_addOne 59 = .ok (.iconst 1, 1) := by decide +kernel
theorem dX9_addOne_60 : decode cX9_addOne 60 = .ok (.isub, 1) := by decide +kernel
theorem dX9_addOne_61 : decode cX9_addOne 61 = .ok (.ireturn, 1) := by decide +kernel
theorem dX9_one_0 : decode cX9_one 0 = .ok (.iload_n 1, 1) := by decide +kernel
theorem dX9_one_1 : decode cX9_one 1 = .ok (.iconst 0, 1) := by decide +kernel
theorem dX9_one_2 : decode cX9_one 2 = .ok (.iconst 5, 1) := by decide +kernel
theorem dX9_one_3 : decode cX9_one 3 = .ok (.invokestatic 91, 3) := by decide +kernel
theorem dX9_one_6 : decode cX9_one 6 = .ok (.ifCond .eq 13, 3) := by decide +kernel
theorem dX9_one_9 : decode cX9_one 9 = .ok (.iload_n 2, 1) := by decide +kernel
theorem dX9_one_10 : decode cX9_one 10 = .ok (.iconst 1, 1) := by decide +kernel
theorem dX9_one_11 : decode cX9_one 11 = .ok (.bipush 12, 2) := by decide +kernel
theorem dX9_one_13 : decode cX9_one 13 = .ok (.invokestatic 91, 3) := by decide +kernel
theorem dX9_one_16 : decode cX9_one 16 = .ok (.ifCond .ne 8, 3) := by decide +kernel
theorem dX9_one_19 : decode cX9_one 19 = .ok (.aload_n 0, 1) := by decide +kernel
theorem dX9_one_20 : decode cX9_one 20 = .ok (.invokevirtual 95, 3) := by decide +kernel
theorem dX9_one_23 : decode cX9_one 23 = .ok (.ireturn, 1) := by decide +kernel
theorem dX9_one_24 : decode cX9_one 24 = .ok (.aload_n 0, 1) := by decide +kernel
theorem dX9_one_25 : decode cX9_one 25 = .ok (.getfield 69, 3) := by decide +kernel
theorem dX9_one_28 : decode cX9_one 28 = .ok (.bipush 6, 2) := by decide +kernel
theorem dX9_one_30 : decode cX9_one 30 = .ok (.if_icmp .ne 10, 3) := by decide +kernel
theorem dX9_one_33 : decode cX9_one 33 = .ok (.aload_n 0, 1) := by decide +kernel
theorem dX9_one_34 : decode cX9_one 34 = .ok (.invokevirtual 99, 3) := by decide +kernel
theorem dX9_one_37 : decode cX9_one 37 = .ok (.goto 9, 3) := by decide +kernel
theorem dX9_one_40 : decode cX9_one 40 = .ok (.aload_n 0, 1) := by decide +kernel
theorem dX9_one_41 : decode cX9_one 41 = .ok (.iload_n 1, 1) := by decide +kernel
theorem dX9_one_42 : decode cX9_one 42 = .ok (.iload_n 2, 1) := by decide +kernel
theorem dX9_one_43 : decode cX9_one 43 = .ok (.invokevirtual 102, 3) := by decide +kernel
theorem dX9_one_46 : decode cX9_one 46 = .ok (.ireturn, 1) := by decide +kernel
theorem dX9_type_0 : decode cX9_type 0 = .ok (.iload_n 1, 1) := by decide +kernel
theorem dX9_type_1 : decode cX9_type 1 = .ok (.iconst 0, 1) := by decide +kernel
theorem dX9_type_2 : decode cX9_type 2 = .ok (.bipush 127, 2) := by decide +kernel
theorem dX9_type_4 : decode cX9_type 4 = .ok (.invokestatic 91, 3) := by decide +kernel
theorem dX9_type_7 : decode cX9_type 7 = .ok (.ifCond .ne 8, 3) := by decide +kernel
theorem dX9_type_10 : decode cX9_type 10 = .ok (.aload_n 0, 1) := by decide +kernel
theorem dX9_type_11 : decode cX9_type 11 = .ok (.invokevirtual 95, 3) := by decide +kernel
theorem dX9_type_14 : decode cX9_type 14 = .ok (.ireturn, 1) := by decide +kernel
theorem dX9_type_15 : decode cX9_type 15 = .ok (.aload_n 0, 1) := by decide +kernel
theorem dX9_type_16 : decode cX9_type 16 = .ok (.getfield 106, 3) := by decide +kernel
theorem dX9_type_19 : decode cX9_type 19 = .ok (.sipush 150, 3) := by decide +kernel
theorem dX9_type_22 : decode cX9_type 22 = .ok (.if_icmp .ne 8, 3) := by decide +kernel
theorem dX9_type_25 : decode cX9_type 25 = .ok (.aload_n 0, 1) := by decide +kernel
theorem dX9_type_26 : decode cX9_type 26 = .ok (.invokevirtual 99, 3) := by decide +kernel
theorem dX9_type_29 : decode cX9_type 29 = .ok (.ireturn, 1) := by decide +kernel
theorem dX9_type_30 : decode cX9_type 30 = .ok (.aload_n 0, 1) := by decide +kernel
theorem dX9_type_31 : decode cX9_type 31 = .ok (.getfield 37, 3) := by decide +kernel
theorem dX9_type_34 : decode cX9_type 34 = .ok (.aload_n 0, 1) := by decide +kernel
theorem dX9_type_35 : decode cX9_type 35 = .ok (.getfield 106, 3) := by decide +kernel
theorem dX9_type_38 : decode cX9_type 38 = .ok (.iload_n 1, 1) := by decide +kernel
theorem dX9_type_39 : decode cX9_type 39 = .ok (.iastore, 1) := by decide +kernel
theorem dX9_type_40 : decode cX9_type 40 = .ok (.aload_n 0, 1) := by decide +kernel
theorem dX9_type_41 : decode cX9_type 41 = .ok (.dup, 1) := by decide +kernel
theorem dX9_type_42 : decode cX9_type 42 = .ok (.getfield 106, 3) := by decide +kernel
theorem dX9_type_45 : decode cX9_type 45 = .ok (.iconst 1, 1) := by decide +kernel
theorem dX9_type_46 : decode cX9_type 46 = .ok (.iadd, 1) := by decide +kernel
theorem dX9_type_47 : decode cX9_type 47 = .ok (.putfield 106, 3) := by decide +kernel
theorem dX9_type_50 : decode cX9_type 50 = .ok (.aload_n 0, 1) := by decide +kernel
theorem dX9_type_51 : decode cX9_type 51 = .ok (.getfield 106, 3) := by decide +kernel
theorem dX9_type_54 : decode cX9_type 54 = .ok (.ireturn, 1) := by decide +kernel
theorem dX9_clear_0 : decode cX9_clear 0 = .ok (.aload_n 0, 1) := by decide +kernel
theorem dX9_clear_1 : decode cX9_clear 1 = .ok (.getfield 106, 3) := by decide +kernel
theorem dX9_clear_4 : decode cX9_clear 4 = .ok (.istore_n 1, 1) := by decide +kernel
theorem dX9_clear_5 : decode cX9_clear 5 = .ok (.aload_n 0, 1) := by decide +kernel
theorem dX9_clear_6 : decode cX9_clear 6 = .ok (.iconst 0, 1) := by decide +kernel
theorem dX9_clear_7 : decode cX9_clear 7 = .ok (.putfield 106, 3) := by decide +kernel
theorem dX9_clear_10 : decode cX9_clear 10 = .ok (.iload_n 1, 1) := by decide +kernel
theorem dX9_clear_11 : decode cX9_clear 11 = .ok (.ireturn, 1) := by decide +kernel
theorem dX9_here_0 : decode cX9_here 0 = .ok (.aload_n 0, 1) := by decide +kernel
theorem dX9_here_1 : decode cX9_here 1 = .ok (.getfield 109, 3) := by decide +kernel
theorem dX9_here_4 : decode cX9_here 4 = .ok (.aload_n 0, 1) := by decide +kernel
theorem dX9_here_5 : decode cX9_here 5 = .ok (.getfield 106, 3) := by decide +kernel
theorem dX9_here_8 : decode cX9_here 8 = .ok (.if_icmp .ge 15, 3) := by decide +kernel
theorem dX9_here_11 : decode cX9_here 11 = .ok (.aload_n 0, 1) := by decide +kernel
theorem dX9_here_12 : decode cX9_here 12 = .ok (.getfield 37, 3) := by decide +kernel
theorem dX9_here_15 : decode cX9_here 15 = .ok (.aload_n 0, 1) := by decide +kernel
theorem dX9_here_16 : decode cX9_here 16 = .ok (.getfield 109, 3) := by decide +kernel
theorem dX9_here_19 : decode cX9_here 19 = .ok (.iaload, 1) := by decide +kernel
theorem dX9_here_20 : decode cX9_here 20 = .ok (.goto 4, 3) := by decide +kernel
theorem dX9_here_23 : decode cX9_here 23 = .ok (.iconst (-1), 1) := by decide +kernel
theorem dX9_here_24 : decode cX9_here 24 = .ok (.ireturn, 1) := by decide +kernel
theorem dX9_skip_0 : decode cX9_skip 0 = .ok (.aload_n 0, 1) := by decide +kernel
theorem dX9_skip_1 : decode cX9_skip 1 = .ok (.invokevirtual 112, 3) := by decide +kernel
theorem dX9_skip_4 : decode cX9_skip 4 = .ok (.bipush 32, 2) := by decide +kernel
theorem dX9_skip_6 : decode cX9_skip 6 = .ok (.if_icmp .ne 16, 3) := by decide +kernel
theorem dX9_skip_9 : decode cX9_skip 9 = .ok (.aload_n 0, 1) := by decide +kernel
theorem dX9_skip_10 : decode cX9_skip 10 = .ok (.dup, 1) := by decide +kernel
theorem dX9_skip_11 : decode cX9_skip 11 = .ok (.getfield 109, 3) := by decide +kernel
theorem dX9_skip_14 : decode cX9_skip 14 = .ok (.iconst 1, 1) := by decide +kernel
theorem dX9_skip_15 : decode cX9_skip 15 = .ok (.iadd, 1) := by decide +kernel
theorem dX9_skip_16 : decode cX9_skip 16 = .ok (.putfield 109, 3) := by decide +kernel
theorem dX9_skip_19 : decode cX9_skip 19 = .ok (.goto (-19), 3) := by decide +kernel
theorem dX9_skip_22 : decode cX9_skip 22 = .ok (.return_, 1) := by decide +kernel
theorem dX9_isLetter_0 : decode cX9_isLetter 0 = .ok (.iload_n 0, 1) := by decide +kernel
theorem dX9_isLetter_1 : decode cX9_isLetter 1 = .ok (.bipush 97, 2) := by decide +kernel
theorem dX9_isLetter_3 : decode cX9_isLetter 3 = .ok (.bipush 122, 2) := by decide +kernel
theorem dX9_isLetter_5 : decode cX9_isLetter 5 = .ok (.invokestatic 91, 3) := by decide +kernel
theorem dX9_isLetter_8 : decode cX9_isLetter 8 = .ok (.ireturn, 1) := by decide +kernel
theorem dX9_isFigure_0 : decode cX9_isFigure 0 = .ok (.iload_n 0, 1) := by decide +kernel
theorem dX9_isFigure_1 : decode cX9_isFigure 1 = .ok (.bipush 48, 2) := by decide +kernel
theorem dX9_isFigure_3 : decode cX9_isFigure 3 = .ok (.bipush 57, 2) := by decide +kernel
theorem dX9_isFigure_5 : decode cX9_isFigure 5 = .ok (.invokestatic 91, 3) := by decide +kernel
theorem dX9_isFigure_8 : decode cX9_isFigure 8 = .ok (.ireturn, 1) := by decide +kernel
theorem dX9_wordSize_0 : decode cX9_wordSize 0 = .ok (.iconst 0, 1) := by decide +kernel
theorem dX9_wordSize_1 : decode cX9_wordSize 1 = .ok (.istore_n 1, 1) := by decide +kernel
theorem dX9_wordSize_2 : decode cX9_wordSize 2 = .ok (.aload_n 0, 1) := by decide +kernel
theorem dX9_wordSize_3 : decode cX9_wordSize 3 = .ok (.getfield 109, 3) := by decide +kernel
theorem dX9_wordSize_6 : decode cX9_wordSize 6 = .ok (.iload_n 1, 1) := by decide +kernel
theorem dX9_wordSize_7 : decode cX9_wordSize 7 = .ok (.iadd, 1) := by decide +kernel
theorem dX9_wordSize_8 : decode cX9_wordSize 8 = .ok (.aload_n 0, 1) := by decide +kernel
theorem dX9_wordSize_9 : decode cX9_wordSize 9 = .ok (.getfield 106, 3) := by decide +kernel
theorem dX9_wordSize_12 : decode cX9_wordSize 12 = .ok (.if_icmp .ge 26, 3) := by decide +kernel
theorem dX9_wordSize_15 : decode cX9_wordSize 15 = .ok (.aload_n 0, 1) := by decide +kernel
theorem dX9_wordSize_16 : decode cX9_wordSize 16 = .ok (.getfield 37, 3) := by decide +kernel
theorem dX9_wordSize_19 : decode cX9_wordSize 19 = .ok (.aload_n 0, 1) := by decide +kernel
theorem dX9_wordSize_20 : decode cX9_wordSize 20 = .ok (.getfield 109, 3) := by decide +kernel
theorem dX9_wordSize_23 : decode cX9_wordSize 23 = .ok (.iload_n 1, 1) := by decide +kernel
theorem dX9_wordSize_24 : decode cX9_wordSize 24 = .ok (.iadd, 1) := by decide +kernel
theorem dX9_wordSize_25 : decode cX9_wordSize 25 = .ok (.iaload, 1) := by decide +kernel
theorem dX9_wordSize_26 : decode cX9_wordSize 26 = .ok (.invokestatic 115, 3) := by decide +kernel
theorem dX9_wordSize_29 : decode cX9_wordSize 29 = .ok (.ifCond .eq 9, 3) := by decide +kernel
theorem dX9_wordSize_32 : decode cX9_wordSize 32 = .ok (.iinc 1 1, 3) := by decide +kernel
theorem dX9_wordSize_35 : decode cX9_wordSize 35 = .ok (.goto (-33), 3) := by decide +kernel
theorem dX9_wordSize_38 : decode cX9_wordSize 38 = .ok (.iload_n 1, 1) := by decide +kernel
theorem dX9_wordSize_39 : decode cX9_wordSize 39 = .ok (.ireturn, 1) := by decide +kernel
theorem dX9_letter_0 : decode cX9_letter 0 = .ok (.aload_n 0, 1) := by decide +kernel
theorem dX9_letter_1 : decode cX9_letter 1 = .ok (.getfield 37, 3) := by decide +kernel
theorem dX9_letter_4 : decode cX9_letter 4 = .ok (.aload_n 0, 1) := by decide +kernel
theorem dX9_letter_5 : decode cX9_letter 5 = .ok (.getfield 109, 3) := by decide +kernel
theorem dX9_letter_8 : decode cX9_letter 8 = .ok (.iload_n 1, 1) := by decide +kernel
theorem dX9_letter_9 : decode cX9_letter 9 = .ok (.iadd, 1) := by decide +kernel
theorem dX9_letter_10 : decode cX9_letter 10 = .ok (.iaload, 1) := by decide +kernel
theorem dX9_letter_11 : decode cX9_letter 11 = .ok (.ireturn, 1) := by decide +kernel
theorem dX9_wordHere_0 : decode cX9_wordHere 0 = .ok (.aload_n 0, 1) := by decide +kernel
theorem dX9_wordHere_1 : decode cX9_wordHere 1 = .ok (.invokevirtual 119, 3) := by decide +kernel
theorem dX9_wordHere_4 : decode cX9_wordHere 4 = .ok (.istore_n 1, 1) := by decide +kernel
theorem dX9_wordHere_5 : decode cX9_wordHere 5 = .ok (.iload_n 1, 1) := by decide +kernel
theorem dX9_wordHere_6 : decode cX9_wordHere 6 = .ok (.iconst 2, 1) := by decide +kernel
theorem dX9_wordHere_7 : decode cX9_wordHere 7 = .ok (.if_icmp .ne 29, 3) := by decide +kernel
theorem dX9_wordHere_10 : decode cX9_wordHere 10 = .ok (.aload_n 0, 1) := by decide +kernel
theorem dX9_wordHere_11 : decode cX9_wordHere 11 = .ok (.iconst 0, 1) := by decide +kernel
theorem dX9_wordHere_12 : decode cX9_wordHere 12 = .ok (.invokevirtual 122, 3) := by decide +kernel
theorem dX9_wordHere_15 : decode cX9_wordHere 15 = .ok (.bipush 97, 2) := by decide +kernel
theorem dX9_wordHere_17 : decode cX9_wordHere 17 = .ok (.if_icmp .ne 17, 3) := by decide +kernel
theorem dX9_wordHere_20 : decode cX9_wordHere 20 = .ok (.aload_n 0, 1) := by decide +kernel
theorem dX9_wordHere_21 : decode cX9_wordHere 21 = .ok (.iconst 1, 1) := by decide +kernel
theorem dX9_wordHere_22 : decode cX9_wordHere 22 = .ok (.invokevirtual 122, 3) := by decide +kernel
theorem dX9_wordHere_25 : decode cX9_wordHere 25 = .ok (.bipush 116, 2) := by decide +kernel
theorem dX9_wordHere_27 : decode cX9_wordHere 27 = .ok (.if_icmp .ne 7, 3) := by decide +kernel
theorem dX9_wordHere_30 : decode cX9_wordHere 30 = .ok (.iconst 4, 1) := by decide +kernel
theorem dX9_wordHere_31 : decode cX9_wordHere 31 = .ok (.goto 4, 3) := by decide +kernel
theorem dX9_wordHere_34 : decode cX9_wordHere 34 = .ok (.iconst (-1), 1) := by decide +kernel
theorem dX9_wordHere_35 : decode cX9_wordHere 35 = .ok (.ireturn, 1) := by decide +kernel
theorem dX9_wordHere_36 : decode cX9_wordHere 36 = .ok (.iload_n 1, 1) := by decide +kernel
theorem dX9_wordHere_37 : decode cX9_wordHere 37 = .ok (.iconst 3, 1) := by decide +kernel
theorem dX9_wordHere_38 : decode cX9_wordHere 38 = .ok (.if_icmp .ne 39, 3) := by decide +kernel
theorem dX9_wordHere_41 : decode cX9_wordHere 41 = .ok (.aload_n 0, 1) := by decide +kernel
theorem dX9_wordHere_42 : decode cX9_wordHere 42 = .ok (.iconst 0, 1) := by decide +kernel
theorem dX9_wordHere_43 : decode cX9_wordHere 43 = .ok (.invokevirtual 122, 3) := by decide +kernel
theorem dX9_wordHere_46 : decode cX9_wordHere 46 = .ok (.bipush 111, 2) := by decide +kernel
theorem dX9_wordHere_48 : decode cX9_wordHere 48 = .ok (.if_icmp .ne 27, 3) := by decide +kernel
theorem dX9_wordHere_51 : decode cX9_wordHere 51 = .ok (.aload_n 0, 1) := by decide +kernel
theorem dX9_wordHere_52 : decode cX9_wordHere 52 = .ok (.iconst 1, 1) := by decide +kernel
theorem dX9_wordHere_53 : decode cX9_wordHere 53 = .ok (.invokevirtual 122, 3) := by decide +kernel
theorem dX9_wordHere_56 : decode cX9_wordHere 56 = .ok (.bipush 110, 2) := by decide +kernel
theorem dX9_wordHere_58 : decode cX9_wordHere 58 = .ok (.if_icmp .ne 17, 3) := by decide +kernel
theorem dX9_wordHere_61 : decode cX9_wordHere 61 = .ok (.aload_n 0, 1) := by decide +kernel
theorem dX9_wordHere_62 : decode cX9_wordHere 62 = .ok (.iconst 2, 1) := by decide +kernel
theorem dX9_wordHere_63 : decode cX9_wordHere 63 = .ok (.invokevirtual 122, 3) := by decide +kernel
theorem dX9_wordHere_66 : decode cX9_wordHere 66 = .ok (.bipush 101, 2) := by decide +kernel
theorem dX9_wordHere_68 : decode cX9_wordHere 68 = .ok (.if_icmp .ne 7, 3) := by decide +kernel
theorem dX9_wordHere_71 : decode cX9_wordHere 71 = .ok (.iconst 1, 1) := by decide +kernel
theorem dX9_wordHere_72 : decode cX9_wordHere 72 = .ok (.goto 4, 3) := by decide +kernel
theorem dX9_wordHere_75 : decode cX9_wordHere 75 = .ok (.iconst (-1), 1) := by decide +kernel
theorem dX9_wordHere_76 : decode cX9_wordHere 76 = .ok (.ireturn, 1) := by decide +kernel
theorem dX9_wordHere_77 : decode cX9_wordHere 77 = .ok (.iload_n 1, 1) := by decide +kernel
theorem dX9_wordHere_78 : decode cX9_wordHere 78 = .ok (.iconst 5, 1) := by decide +kernel
theorem dX9_wordHere_79 : decode cX9_wordHere 79 = .ok (.if_icmp .ne 111, 3) := by decide +kernel
theorem dX9_wordHere_82 : decode cX9_wordHere 82 = .ok (.aload_n 0, 1) := by decide +kernel
theorem dX9_wordHere_83 : decode cX9_wordHere 83 = .ok (.iconst 0, 1) := by decide +kernel
theorem dX9_wordHere_84 : decode cX9_wordHere 84 = .ok (.invokevirtual 122, 3) := by decide +kernel
theorem dX9_wordHere_87 : decode cX9_wordHere 87 = .ok (.bipush 104, 2) := by decide +kernel
theorem dX9_wordHere_89 : decode cX9_wordHere 89 = .ok (.if_icmp .ne 45, 3) := by decide +kernel
theorem dX9_wordHere_92 : decode cX9_wordHere 92 = .ok (.aload_n 0, 1) := by decide +kernel
theorem dX9_wordHere_93 : decode cX9_wordHere 93 = .ok (.iconst 1, 1) := by decide +kernel
theorem dX9_wordHere_94 : decode cX9_wordHere 94 = .ok (.invokevirtual 122, 3) := by decide +kernel
theorem dX9_wordHere_97 : decode cX9_wordHere 97 = .ok (.bipush 111, 2) := by decide +kernel
theorem dX9_wordHere_99 : decode cX9_wordHere 99 = .ok (.if_icmp .ne 35, 3) := by decide +kernel
theorem dX9_wordHere_102 : decode cX9_wordHere 102 = .ok (.aload_n 0, 1) := by decide +kernel
theorem dX9_wordHere_103 : decode cX9_wordHere 103 = .ok (.iconst 2, 1) := by decide +kernel
theorem dX9_wordHere_104 : decode cX9_wordHere 104 = .ok (.invokevirtual 122, 3) := by decide +kernel
theorem dX9_wordHere_107 : decode cX9_wordHere 107 = .ok (.bipush 117, 2) := by decide +kernel
theorem dX9_wordHere_109 : decode cX9_wordHere 109 = .ok (.if_icmp .ne 25, 3) := by decide +kernel
theorem dX9_wordHere_112 : decode cX9_wordHere 112 = .ok (.aload_n 0, 1) := by decide +kernel
theorem dX9_wordHere_113 : decode cX9_wordHere 113 = .ok (.iconst 3, 1) := by decide +kernel
theorem dX9_wordHere_114 : decode cX9_wordHere 114 = .ok (.invokevirtual 122, 3) := by decide +kernel
theorem dX9_wordHere_117 : decode cX9_wordHere 117 = .ok (.bipush 115, 2) := by decide +kernel
theorem dX9_wordHere_119 : decode cX9_wordHere 119 = .ok (.if_icmp .ne 15, 3) := by decide +kernel
theorem dX9_wordHere_122 : decode cX9_wordHere 122 = .ok (.aload_n 0, 1) := by decide +kernel
theorem dX9_wordHere_123 : decode cX9_wordHere 123 = .ok (.iconst 4, 1) := by decide +kernel
theorem dX9_wordHere_124 : decode cX9_wordHere 124 = .ok (.invokevirtual 122, 3) := by decide +kernel
theorem dX9_wordHere_127 : decode cX9_wordHere 127 = .ok (.bipush 101, 2) := by decide +kernel
theorem dX9_wordHere_129 : decode cX9_wordHere 129 = .ok (.if_icmp .ne 5, 3) := by decide +kernel
theorem dX9_wordHere_132 : decode cX9_wordHere 132 = .ok (.iconst 0, 1) := by decide +kernel
theorem dX9_wordHere_133 : decode cX9_wordHere 133 = .ok (.ireturn, 1) := by decide +kernel
theorem dX9_wordHere_134 : decode cX9_wordHere 134 = .ok (.aload_n 0, 1) := by decide +kernel
theorem dX9_wordHere_135 : decode cX9_wordHere 135 = .ok (.iconst 0, 1) := by decide +kernel
theorem dX9_wordHere_136 : decode cX9_wordHere 136 = .ok (.invokevirtual 122, 3) := by decide +kernel
theorem dX9_wordHere_139 : decode cX9_wordHere 139 = .ok (.bipush 107, 2) := by decide +kernel
theorem dX9_wordHere_141 : decode cX9_wordHere 141 = .ok (.if_icmp .ne 47, 3) := by decide +kernel
theorem dX9_wordHere_144 : decode cX9_wordHere 144 = .ok (.aload_n 0, 1) := by decide +kernel
theorem dX9_wordHere_145 : decode cX9_wordHere 145 = .ok (.iconst 1, 1) := by decide +kernel
theorem dX9_wordHere_146 : decode cX9_wordHere 146 = .ok (.invokevirtual 122, 3) := by decide +kernel
theorem dX9_wordHere_149 : decode cX9_wordHere 149 = .ok (.bipush 110, 2) := by decide +kernel
theorem dX9_wordHere_151 : decode cX9_wordHere 151 = .ok (.if_icmp .ne 37, 3) := by decide +kernel
theorem dX9_wordHere_154 : decode cX9_wordHere 154 = .ok (.aload_n 0, 1) := by decide +kernel
theorem dX9_wordHere_155 : decode cX9_wordHere 155 = .ok (.iconst 2, 1) := by decide +kernel
theorem dX9_wordHere_156 : decode cX9_wordHere 156 = .ok (.invokevirtual 122, 3) := by decide +kernel
theorem dX9_wordHere_159 : decode cX9_wordHere 159 = .ok (.bipush 111, 2) := by decide +kernel
theorem dX9_wordHere_161 : decode cX9_wordHere 161 = .ok (.if_icmp .ne 27, 3) := by decide +kernel
theorem dX9_wordHere_164 : decode cX9_wordHere 164 = .ok (.aload_n 0, 1) := by decide +kernel
theorem dX9_wordHere_165 : decode cX9_wordHere 165 = .ok (.iconst 3, 1) := by decide +kernel
theorem dX9_wordHere_166 : decode cX9_wordHere 166 = .ok (.invokevirtual 122, 3) := by decide +kernel
theorem dX9_wordHere_169 : decode cX9_wordHere 169 = .ok (.bipush 119, 2) := by decide +kernel
theorem dX9_wordHere_171 : decode cX9_wordHere 171 = .ok (.if_icmp .ne 17, 3) := by decide +kernel
theorem dX9_wordHere_174 : decode cX9_wordHere 174 = .ok (.aload_n 0, 1) := by decide +kernel
theorem dX9_wordHere_175 : decode cX9_wordHere 175 = .ok (.iconst 4, 1) := by decide +kernel
theorem dX9_wordHere_176 : decode cX9_wordHere 176 = .ok (.invokevirtual 122, 3) := by decide +kernel
theorem dX9_wordHere_179 : decode cX9_wordHere 179 = .ok (.bipush 115, 2) := by decide +kernel
theorem dX9_wordHere_181 : decode cX9_wordHere 181 = .ok (.if_icmp .ne 7, 3) := by decide +kernel
theorem dX9_wordHere_184 : decode cX9_wordHere 184 = .ok (.iconst 2, 1) := by decide +kernel
theorem dX9_wordHere_185 : decode cX9_wordHere 185 = .ok (.goto 4, 3) := by decide +kernel
theorem dX9_wordHere_188 : decode cX9_wordHere 188 = .ok (.iconst (-1), 1) := by decide +kernel
theorem dX9_wordHere_189 : decode cX9_wordHere 189 = .ok (.ireturn, 1) := by decide +kernel
theorem dX9_wordHere_190 : decode cX9_wordHere 190 = .ok (.iload_n 1, 1) := by decide +kernel
theorem dX9_wordHere_191 : decode cX9_wordHere 191 = .ok (.bipush 6, 2) := by decide +kernel
theorem dX9_wordHere_193 : decode cX9_wordHere 193 = .ok (.if_icmp .ne 69, 3) := by decide +kernel
theorem dX9_wordHere_196 : decode cX9_wordHere 196 = .ok (.aload_n 0, 1) := by decide +kernel
theorem dX9_wordHere_197 : decode cX9_wordHere 197 = .ok (.iconst 0, 1) := by decide +kernel
theorem dX9_wordHere_198 : decode cX9_wordHere 198 = .ok (.invokevirtual 122, 3) := by decide +kernel
theorem dX9_wordHere_201 : decode cX9_wordHere 201 = .ok (.bipush 99, 2) := by decide +kernel
theorem dX9_wordHere_203 : decode cX9_wordHere 203 = .ok (.if_icmp .ne 57, 3) := by decide +kernel
theorem dX9_wordHere_206 : decode cX9_wordHere 206 = .ok (.aload_n 0, 1) := by decide +kernel
theorem dX9_wordHere_207 : decode cX9_wordHere 207 = .ok (.iconst 1, 1) := by decide +kernel
theorem dX9_wordHere_208 : decode cX9_wordHere 208 = .ok (.invokevirtual 122, 3) := by decide +kernel
theorem dX9_wordHere_211 : decode cX9_wordHere 211 = .ok (.bipush 97, 2) := by decide +kernel
theorem dX9_wordHere_213 : decode cX9_wordHere 213 = .ok (.if_icmp .ne 47, 3) := by decide +kernel
theorem dX9_wordHere_216 : decode cX9_wordHere 216 = .ok (.aload_n 0, 1) := by decide +kernel
theorem dX9_wordHere_217 : decode cX9_wordHere 217 = .ok (.iconst 2, 1) := by decide +kernel
theorem dX9_wordHere_218 : decode cX9_wordHere 218 = .ok (.invokevirtual 122, 3) := by decide +kernel
theorem dX9_wordHere_221 : decode cX9_wordHere 221 = .ok (.bipush 114, 2) := by decide +kernel
theorem dX9_wordHere_223 : decode cX9_wordHere 223 = .ok (.if_icmp .ne 37, 3) := by decide +kernel
theorem dX9_wordHere_226 : decode cX9_wordHere 226 = .ok (.aload_n 0, 1) := by decide +kernel
theorem dX9_wordHere_227 : decode cX9_wordHere 227 = .ok (.iconst 3, 1) := by decide +kernel
theorem dX9_wordHere_228 : decode cX9_wordHere 228 = .ok (.invokevirtual 122, 3) := by decide +kernel
theorem dX9_wordHere_231 : decode cX9_wordHere 231 = .ok (.bipush 112, 2) := by decide +kernel
theorem dX9_wordHere_233 : decode cX9_wordHere 233 = .ok (.if_icmp .ne 27, 3) := by decide +kernel
theorem dX9_wordHere_236 : decode cX9_wordHere 236 = .ok (.aload_n 0, 1) := by decide +kernel
theorem dX9_wordHere_237 : decode cX9_wordHere 237 = .ok (.iconst 4, 1) := by decide +kernel
theorem dX9_wordHere_238 : decode cX9_wordHere 238 = .ok (.invokevirtual 122, 3) := by decide +kernel
theorem dX9_wordHere_241 : decode cX9_wordHere 241 = .ok (.bipush 101, 2) := by decide +kernel
theorem dX9_wordHere_243 : decode cX9_wordHere 243 = .ok (.if_icmp .ne 17, 3) := by decide +kernel
theorem dX9_wordHere_246 : decode cX9_wordHere 246 = .ok (.aload_n 0, 1) := by decide +kernel
theorem dX9_wordHere_247 : decode cX9_wordHere 247 = .ok (.iconst 5, 1) := by decide +kernel
theorem dX9_wordHere_248 : decode cX9_wordHere 248 = .ok (.invokevirtual 122, 3) := by decide +kernel
theorem dX9_wordHere_251 : decode cX9_wordHere 251 = .ok (.bipush 116, 2) := by decide +kernel
theorem dX9_wordHere_253 : decode cX9_wordHere 253 = .ok (.if_icmp .ne 7, 3) := by decide +kernel
theorem dX9_wordHere_256 : decode cX9_wordHere 256 = .ok (.iconst 3, 1) := by decide +kernel
theorem dX9_wordHere_257 : decode cX9_wordHere 257 = .ok (.goto 4, 3) := by decide +kernel
theorem dX9_wordHere_260 : decode cX9_wordHere 260 = .ok (.iconst (-1), 1) := by decide +kernel
theorem dX9_wordHere_261 : decode cX9_wordHere 261 = .ok (.ireturn, 1) := by decide +kernel
theorem dX9_wordHere_262 : decode cX9_wordHere 262 = .ok (.iload_n 1, 1) := by decide +kernel
theorem dX9_wordHere_263 : decode cX9_wordHere 263 = .ok (.bipush 7, 2) := by decide +kernel
theorem dX9_wordHere_265 : decode cX9_wordHere 265 = .ok (.if_icmp .eq 5, 3) := by decide +kernel
theorem dX9_wordHere_268 : decode cX9_wordHere 268 = .ok (.iconst (-1), 1) := by decide +kernel
theorem dX9_wordHere_269 : decode cX9_wordHere 269 = .ok (.ireturn, 1) := by decide +kernel
theorem dX9_wordHere_270 : decode cX9_wordHere 270 = .ok (.aload_n 0, 1) := by decide +kernel
theorem dX9_wordHere_271 : decode cX9_wordHere 271 = .ok (.iconst 0, 1) := by decide +kernel
theorem dX9_wordHere_272 : decode cX9_wordHere 272 = .ok (.invokevirtual 122, 3) := by decide +kernel
theorem dX9_wordHere_275 : decode cX9_wordHere 275 = .ok (.bipush 109, 2) := by decide +kernel
theorem dX9_wordHere_277 : decode cX9_wordHere 277 = .ok (.if_icmp .ne 37, 3) := by decide +kernel
theorem dX9_wordHere_280 : decode cX9_wordHere 280 = .ok (.aload_n 0, 1) := by decide +kernel
theorem dX9_wordHere_281 : decode cX9_wordHere 281 = .ok (.iconst 1, 1) := by decide +kernel
theorem dX9_wordHere_282 : decode cX9_wordHere 282 = .ok (.invokevirtual 122, 3) := by decide +kernel
theorem dX9_wordHere_285 : decode cX9_wordHere 285 = .ok (.bipush 105, 2) := by decide +kernel
theorem dX9_wordHere_287 : decode cX9_wordHere 287 = .ok (.if_icmp .ne 27, 3) := by decide +kernel
theorem dX9_wordHere_290 : decode cX9_wordHere 290 = .ok (.aload_n 0, 1) := by decide +kernel
theorem dX9_wordHere_291 : decode cX9_wordHere 291 = .ok (.iconst 2, 1) := by decide +kernel
theorem dX9_wordHere_292 : decode cX9_wordHere 292 = .ok (.invokevirtual 122, 3) := by decide +kernel
theorem dX9_wordHere_295 : decode cX9_wordHere 295 = .ok (.bipush 110, 2) := by decide +kernel
theorem dX9_wordHere_297 : decode cX9_wordHere 297 = .ok (.if_icmp .ne 17, 3) := by decide +kernel
theorem dX9_wordHere_300 : decode cX9_wordHere 300 = .ok (.aload_n 0, 1) := by decide +kernel
theorem dX9_wordHere_301 : decode cX9_wordHere 301 = .ok (.iconst 3, 1) := by decide +kernel
theorem dX9_wordHere_302 : decode cX9_wordHere 302 = .ok (.invokevirtual 122, 3) := by decide +kernel
theorem dX9_wordHere_305 : decode cX9_wordHere 305 = .ok (.bipush 117, 2) := by decide +kernel
theorem dX9_wordHere_307 : decode cX9_wordHere 307 = .ok (.if_icmp .ne 7, 3) := by decide +kernel
theorem dX9_wordHere_310 : decode cX9_wordHere 310 = .ok (.iconst 1, 1) := by decide +kernel
theorem dX9_wordHere_311 : decode cX9_wordHere 311 = .ok (.goto 4, 3) := by decide +kernel
theorem dX9_wordHere_314 : decode cX9_wordHere 314 = .ok (.iconst 0, 1) := by decide +kernel
theorem dX9_wordHere_315 : decode cX9_wordHere 315 = .ok (.istore_n 2, 1) := by decide +kernel
theorem dX9_wordHere_316 : decode cX9_wordHere 316 = .ok (.iload_n 2, 1) := by decide +kernel
theorem dX9_wordHere_317 : decode cX9_wordHere 317 = .ok (.ifCond .eq 38, 3) := by decide +kernel
theorem dX9_wordHere_320 : decode cX9_wordHere 320 = .ok (.aload_n 0, 1) := by decide +kernel
theorem dX9_wordHere_321 : decode cX9_wordHere 321 = .ok (.iconst 4, 1) := by decide +kernel
theorem dX9_wordHere_322 : decode cX9_wordHere 322 = .ok (.invokevirtual 122, 3) := by decide +kernel
theorem dX9_wordHere_325 : decode cX9_wordHere 325 = .ok (.bipush 116, 2) := by decide +kernel
theorem dX9_wordHere_327 : decode cX9_wordHere 327 = .ok (.if_icmp .ne 28, 3) := by decide +kernel
theorem dX9_wordHere_330 : decode cX9_wordHere 330 = .ok (.aload_n 0, 1) := by decide +kernel
theorem dX9_wordHere_331 : decode cX9_wordHere 331 = .ok (.iconst 5, 1) := by decide +kernel
theorem dX9_wordHere_332 : decode cX9_wordHere 332 = .ok (.invokevirtual 122, 3) := by decide +kernel
theorem dX9_wordHere_335 : decode cX9_wordHere 335 = .ok (.bipush 101, 2) := by decide +kernel
theorem dX9_wordHere_337 : decode cX9_wordHere 337 = .ok (.if_icmp .ne 18, 3) := by decide +kernel
theorem dX9_wordHere_340 : decode cX9_wordHere 340 = .ok (.aload_n 0, 1) := by decide +kernel
theorem dX9_wordHere_341 : decode cX9_wordHere 341 = .ok (.bipush 6, 2) := by decide +kernel
theorem dX9_wordHere_343 : decode cX9_wordHere 343 = .ok (.invokevirtual 122, 3) := by decide +kernel
theorem dX9_wordHere_346 : decode cX9_wordHere 346 = .ok (.bipush 115, 2) := by decide +kernel
theorem dX9_wordHere_348 : decode cX9_wordHere 348 = .ok (.if_icmp .ne 7, 3) := by decide +kernel
theorem dX9_wordHere_351 : decode cX9_wordHere 351 = .ok (.iconst 5, 1) := by decide +kernel
theorem dX9_wordHere_352 : decode cX9_wordHere 352 = .ok (.goto 4, 3) := by decide +kernel
theorem dX9_wordHere_355 : decode cX9_wordHere 355 = .ok (.iconst (-1), 1) := by decide +kernel
theorem dX9_wordHere_356 : decode cX9_wordHere 356 = .ok (.ireturn, 1) := by decide +kernel
theorem dX9_number_0 : decode cX9_number 0 = .ok (.aload_n 0, 1) := by decide +kernel
theorem dX9_number_1 : decode cX9_number 1 = .ok (.invokevirtual 126, 3) := by decide +kernel
theorem dX9_number_4 : decode cX9_number 4 = .ok (.iconst 0, 1) := by decide +kernel
theorem dX9_number_5 : decode cX9_number 5 = .ok (.istore_n 3, 1) := by decide +kernel
theorem dX9_number_6 : decode cX9_number 6 = .ok (.iconst 0, 1) := by decide +kernel
theorem dX9_number_7 : decode cX9_number 7 = .ok (.istore 4, 2) := by decide +kernel
theorem dX9_number_9 : decode cX9_number 9 = .ok (.aload_n 0, 1) := by decide +kernel
theorem dX9_number_10 : decode cX9_number 10 = .ok (.getfield 109, 3) := by decide +kernel
theorem dX9_number_13 : decode cX9_number 13 = .ok (.iload_n 3, 1) := by decide +kernel
theorem dX9_number_14 : decode cX9_number 14 = .ok (.iadd, 1) := by decide +kernel
theorem dX9_number_15 : decode cX9_number 15 = .ok (.aload_n 0, 1) := by decide +kernel
theorem dX9_number_16 : decode cX9_number 16 = .ok (.getfield 106, 3) := by decide +kernel
theorem dX9_number_19 : decode cX9_number 19 = .ok (.if_icmp .ge 58, 3) := by decide +kernel
theorem dX9_number_22 : decode cX9_number 22 = .ok (.aload_n 0, 1) := by decide +kernel
theorem dX9_number_23 : decode cX9_number 23 = .ok (.getfield 37, 3) := by decide +kernel
theorem dX9_number_26 : decode cX9_number 26 = .ok (.aload_n 0, 1) := by decide +kernel
theorem dX9_number_27 : decode cX9_number 27 = .ok (.getfield 109, 3) := by decide +kernel
theorem dX9_number_30 : decode cX9_number 30 = .ok (.iload_n 3, 1) := by decide +kernel
theorem dX9_number_31 : decode cX9_number 31 = .ok (.iadd, 1) := by decide +kernel
theorem dX9_number_32 : decode cX9_number 32 = .ok (.iaload, 1) := by decide +kernel
theorem dX9_number_33 : decode cX9_number 33 = .ok (.invokestatic 129, 3) := by decide +kernel
theorem dX9_number_36 : decode cX9_number 36 = .ok (.ifCond .eq 41, 3) := by decide +kernel
theorem dX9_number_39 : decode cX9_number 39 = .ok (.iload_n 3, 1) := by decide +kernel
theorem dX9_number_40 : decode cX9_number 40 = .ok (.iconst 2, 1) := by decide +kernel
theorem dX9_number_41 : decode cX9_number 41 = .ok (.if_icmp .ge 26, 3) := by decide +kernel
theorem dX9_number_44 : decode cX9_number 44 = .ok (.bipush 10, 2) := by decide +kernel
theorem dX9_number_46 : decode cX9_number 46 = .ok (.iload 4, 2) := by decide +kernel
theorem dX9_number_48 : decode cX9_number 48 = .ok (.imul, 1) := by decide +kernel
theorem dX9_number_49 : decode cX9_number 49 = .ok (.aload_n 0, 1) := by decide +kernel
theorem dX9_number_50 : decode cX9_number 50 = .ok (.getfield 37, 3) := by decide +kernel
theorem dX9_number_53 : decode cX9_number 53 = .ok (.aload_n 0, 1) := by decide +kernel
theorem dX9_number_54 : decode cX9_number 54 = .ok (.getfield 109, 3) := by decide +kernel
theorem dX9_number_57 : decode cX9_number 57 = .ok (.iload_n 3, 1) := by decide +kernel
theorem dX9_number_58 : decode cX9_number 58 = .ok (.iadd, 1) := by decide +kernel
theorem dX9_number_59 : decode cX9_number 59 = .ok (.iaload, 1) := by decide +kernel
theorem dX9_number_60 : decode cX9_number 60 = .ok (.iadd, 1) := by decide +kernel
theorem dX9_number_61 : decode cX9_number 61 = .ok (.bipush 48, 2) := by decide +kernel
theorem dX9_number_63 : decode cX9_number 63 = .ok (.isub, 1) := by decide +kernel
theorem dX9_number_64 : decode cX9_number 64 = .ok (.goto 5, 3) := by decide +kernel
theorem dX9_number_67 : decode cX9_number 67 = .ok (.iload 4, 2) := by decide +kernel
theorem dX9_number_69 : decode cX9_number 69 = .ok (.istore 4, 2) := by decide +kernel
theorem dX9_number_71 : decode cX9_number 71 = .ok (.iinc 3 1, 3) := by decide +kernel
theorem dX9_number_74 : decode cX9_number 74 = .ok (.goto (-65), 3) := by decide +kernel
theorem dX9_number_77 : decode cX9_number 77 = .ok (.iload_n 3, 1) := by decide +kernel
theorem dX9_number_78 : decode cX9_number 78 = .ok (.iconst 1, 1) := by decide +kernel
theorem dX9_number_79 : decode cX9_number 79 = .ok (.iconst 2, 1) := by decide +kernel
theorem dX9_number_80 : decode cX9_number 80 = .ok (.invokestatic 91, 3) := by decide +kernel
theorem dX9_number_83 : decode cX9_number 83 = .ok (.ifCond .eq 13, 3) := by decide +kernel
theorem dX9_number_86 : decode cX9_number 86 = .ok (.iload 4, 2) := by decide +kernel
theorem dX9_number_88 : decode cX9_number 88 = .ok (.iload_n 1, 1) := by decide +kernel
theorem dX9_number_89 : decode cX9_number 89 = .ok (.iload_n 2, 1) := by decide +kernel
theorem dX9_number_90 : decode cX9_number 90 = .ok (.invokestatic 91, 3) := by decide +kernel
theorem dX9_number_93 : decode cX9_number 93 = .ok (.ifCond .ne 5, 3) := by decide +kernel
theorem dX9_number_96 : decode cX9_number 96 = .ok (.iconst 0, 1) := by decide +kernel
theorem dX9_number_97 : decode cX9_number 97 = .ok (.ireturn, 1) := by decide +kernel
theorem dX9_number_98 : decode cX9_number 98 = .ok (.aload_n 0, 1) := by decide +kernel
theorem dX9_number_99 : decode cX9_number 99 = .ok (.iload 4, 2) := by decide +kernel
theorem dX9_number_101 : decode cX9_number 101 = .ok (.putfield 132, 3) := by decide +kernel
theorem dX9_number_104 : decode cX9_number 104 = .ok (.aload_n 0, 1) := by decide +kernel
theorem dX9_number_105 : decode cX9_number 105 = .ok (.dup, 1) := by decide +kernel
theorem dX9_number_106 : decode cX9_number 106 = .ok (.getfield 109, 3) := by decide +kernel
theorem dX9_number_109 : decode cX9_number 109 = .ok (.iload_n 3, 1) := by decide +kernel
theorem dX9_number_110 : decode cX9_number 110 = .ok (.iadd, 1) := by decide +kernel
theorem dX9_number_111 : decode cX9_number 111 = .ok (.putfield 109, 3) := by decide +kernel
theorem dX9_number_114 : decode cX9_number 114 = .ok (.iconst 1, 1) := by decide +kernel
theorem dX9_number_115 : decode cX9_number 115 = .ok (.ireturn, 1) := by decide +kernel
theorem dX9_ends_0 : decode cX9_ends 0 = .ok (.aload_n 0, 1) := by decide +kernel
theorem dX9_ends_1 : decode cX9_ends 1 = .ok (.invokevirtual 126, 3) := by decide +kernel
theorem dX9_ends_4 : decode cX9_ends 4 = .ok (.aload_n 0, 1) := by decide +kernel
theorem dX9_ends_5 : decode cX9_ends 5 = .ok (.invokevirtual 112, 3) := by decide +kernel
theorem dX9_ends_8 : decode cX9_ends 8 = .ok (.bipush 59, 2) := by decide +kernel
theorem dX9_ends_10 : decode cX9_ends 10 = .ok (.if_icmp .eq 5, 3) := by decide +kernel
theorem dX9_ends_13 : decode cX9_ends 13 = .ok (.iconst 0, 1) := by decide +kernel
theorem dX9_ends_14 : decode cX9_ends 14 = .ok (.ireturn, 1) := by decide +kernel
theorem dX9_ends_15 : decode cX9_ends 15 = .ok (.aload_n 0, 1) := by decide +kernel
theorem dX9_ends_16 : decode cX9_ends 16 = .ok (.dup, 1) := by decide +kernel
theorem dX9_ends_17 : decode cX9_ends 17 = .ok (.getfield 109, 3) := by decide +kernel
theorem dX9_ends_20 : decode cX9_ends 20 = .ok (.iconst 1, 1) := by decide +kernel
theorem dX9_ends_21 : decode cX9_ends 21 = .ok (.iadd, 1) := by decide +kernel
theorem dX9_ends_22 : decode cX9_ends 22 = .ok (.putfield 109, 3) := by decide +kernel
theorem dX9_ends_25 : decode cX9_ends 25 = .ok (.iconst 1, 1) := by decide +kernel
theorem dX9_ends_26 : decode cX9_ends 26 = .ok (.ireturn, 1) := by decide +kernel
theorem dX9_readsOne_0 : decode cX9_readsOne 0 = .ok (.aload_n 0, 1) := by decide +kernel
theorem dX9_readsOne_1 : decode cX9_readsOne 1 = .ok (.iconst 0, 1) := by decide +kernel
theorem dX9_readsOne_2 : decode cX9_readsOne 2 = .ok (.iconst 5, 1) := by decide +kernel
theorem dX9_readsOne_3 : decode cX9_readsOne 3 = .ok (.invokevirtual 135, 3) := by decide +kernel
theorem dX9_readsOne_6 : decode cX9_readsOne 6 = .ok (.ifCond .ne 5, 3) := by decide +kernel
theorem dX9_readsOne_9 : decode cX9_readsOne 9 = .ok (.iconst 0, 1) := by decide +kernel
theorem dX9_readsOne_10 : decode cX9_readsOne 10 = .ok (.ireturn, 1) := by decide +kernel
theorem dX9_readsOne_11 : decode cX9_readsOne 11 = .ok (.aload_n 0, 1) := by decide +kernel
theorem dX9_readsOne_12 : decode cX9_readsOne 12 = .ok (.getfield 132, 3) := by decide +kernel
theorem dX9_readsOne_15 : decode cX9_readsOne 15 = .ok (.istore_n 1, 1) := by decide +kernel
theorem dX9_readsOne_16 : decode cX9_readsOne 16 = .ok (.aload_n 0, 1) := by decide +kernel
theorem dX9_readsOne_17 : decode cX9_readsOne 17 = .ok (.iconst 1, 1) := by decide +kernel
theorem dX9_readsOne_18 : decode cX9_readsOne 18 = .ok (.bipush 12, 2) := by decide +kernel
theorem dX9_readsOne_20 : decode cX9_readsOne 20 = .ok (.invokevirtual 135, 3) := by decide +kernel
theorem dX9_readsOne_23 : decode cX9_readsOne 23 = .ok (.ifCond .ne 5, 3) := by decide +kernel
theorem dX9_readsOne_26 : decode cX9_readsOne 26 = .ok (.iconst 0, 1) := by decide +kernel
theorem dX9_readsOne_27 : decode cX9_readsOne 27 = .ok (.ireturn, 1) := by decide +kernel
theorem dX9_readsOne_28 : decode cX9_readsOne 28 = .ok (.aload_n 0, 1) := by decide +kernel
theorem dX9_readsOne_29 : decode cX9_readsOne 29 = .ok (.getfield 132, 3) := by decide +kernel
theorem dX9_readsOne_32 : decode cX9_readsOne 32 = .ok (.istore_n 2, 1) := by decide +kernel
theorem dX9_readsOne_33 : decode cX9_readsOne 33 = .ok (.aload_n 0, 1) := by decide +kernel
theorem dX9_readsOne_34 : decode cX9_readsOne 34 = .ok (.invokevirtual 139, 3) := by decide +kernel
theorem dX9_readsOne_37 : decode cX9_readsOne 37 = .ok (.ifCond .ne 5, 3) := by decide +kernel
theorem dX9_readsOne_40 : decode cX9_readsOne 40 = .ok (.iconst 0, 1) := by decide +kernel
theorem dX9_readsOne_41 : decode cX9_readsOne 41 = .ok (.ireturn, 1) := by decide +kernel
theorem dX9_readsOne_42 : decode cX9_readsOne 42 = .ok (.aload_n 0, 1) := by decide +kernel
theorem dX9_readsOne_43 : decode cX9_readsOne 43 = .ok (.iload_n 1, 1) := by decide +kernel
theorem dX9_readsOne_44 : decode cX9_readsOne 44 = .ok (.iload_n 2, 1) := by decide +kernel
theorem dX9_readsOne_45 : decode cX9_readsOne 45 = .ok (.invokevirtual 102, 3) := by decide +kernel
theorem dX9_readsOne_48 : decode cX9_readsOne 48 = .ok (.pop, 1) := by decide +kernel
theorem dX9_readsOne_49 : decode cX9_readsOne 49 = .ok (.iconst 1, 1) := by decide +kernel
theorem dX9_readsOne_50 : decode cX9_readsOne 50 = .ok (.ireturn, 1) := by decide +kernel
theorem dX9_readsWhere_0 : decode cX9_readsWhere 0 = .ok (.aload_n 0, 1) := by decide +kernel
theorem dX9_readsWhere_1 : decode cX9_readsWhere 1 = .ok (.iconst 0, 1) := by decide +kernel
theorem dX9_readsWhere_2 : decode cX9_readsWhere 2 = .ok (.aload_n 0, 1) := by decide +kernel
theorem dX9_readsWhere_3 : decode cX9_readsWhere 3 = .ok (.getfield 69, 3) := by decide +kernel
theorem dX9_readsWhere_6 : decode cX9_readsWhere 6 = .ok (.iconst 1, 1) := by decide +kernel
theorem dX9_readsWhere_7 : decode cX9_readsWhere 7 = .ok (.isub, 1) := by decide +kernel
theorem dX9_readsWhere_8 : decode cX9_readsWhere 8 = .ok (.invokevirtual 135, 3) := by decide +kernel
theorem dX9_readsWhere_11 : decode cX9_readsWhere 11 = .ok (.ifCond .ne 5, 3) := by decide +kernel
theorem dX9_readsWhere_14 : decode cX9_readsWhere 14 = .ok (.iconst 0, 1) := by decide +kernel
theorem dX9_readsWhere_15 : decode cX9_readsWhere 15 = .ok (.ireturn, 1) := by decide +kernel
theorem dX9_readsWhere_16 : decode cX9_readsWhere 16 = .ok (.aload_n 0, 1) := by decide +kernel
theorem dX9_readsWhere_17 : decode cX9_readsWhere 17 = .ok (.getfield 132, 3) := by decide +kernel
theorem dX9_readsWhere_20 : decode cX9_readsWhere 20 = .ok (.istore_n 2, 1) := by decide +kernel
theorem dX9_readsWhere_21 : decode cX9_readsWhere 21 = .ok (.aload_n 0, 1) := by decide +kernel
theorem dX9_readsWhere_22 : decode cX9_readsWhere 22 = .ok (.iconst 0, 1) := by decide +kernel
theorem dX9_readsWhere_23 : decode cX9_readsWhere 23 = .ok (.iload_n 1, 1) := by decide +kernel
theorem dX9_readsWhere_24 : decode cX9_readsWhere 24 = .ok (.ifCond .eq 8, 3) := by decide +kernel
theorem dX9_readsWhere_27 : decode cX9_readsWhere 27 = .ok (.bipush 7, 2) := by decide +kernel
theorem dX9_readsWhere_29 : decode cX9_readsWhere 29 = .ok (.goto 5, 3) := by decide +kernel
theorem dX9_readsWhere_32 : decode cX9_readsWhere 32 = .ok (.bipush 8, 2) := by decide +kernel
theorem dX9_readsWhere_34 : decode cX9_readsWhere 34 = .ok (.invokevirtual 135, 3) := by decide +kernel
theorem dX9_readsWhere_37 : decode cX9_readsWhere 37 = .ok (.ifCond .ne 5, 3) := by decide +kernel
theorem dX9_readsWhere_40 : decode cX9_readsWhere 40 = .ok (.iconst 0, 1) := by decide +kernel
theorem dX9_readsWhere_41 : decode cX9_readsWhere 41 = .ok (.ireturn, 1) := by decide +kernel
theorem dX9_readsWhere_42 : decode cX9_readsWhere 42 = .ok (.aload_n 0, 1) := by decide +kernel
theorem dX9_readsWhere_43 : decode cX9_readsWhere 43 = .ok (.getfield 22, 3) := by decide +kernel
theorem dX9_readsWhere_46 : decode cX9_readsWhere 46 = .ok (.iload_n 2, 1) := by decide +kernel
theorem dX9_readsWhere_47 : decode cX9_readsWhere 47 = .ok (.dup2, 1) := by decide +kernel
theorem dX9_readsWhere_48 : decode cX9_readsWhere 48 = .ok (.iaload, 1) := by decide +kernel
theorem dX9_readsWhere_49 : decode cX9_readsWhere 49 = .ok (.iload_n 1, 1) := by decide +kernel
theorem dX9_readsWhere_50 : decode cX9_readsWhere 50 = .ok (.ifCond .eq 12, 3) := by decide +kernel
theorem dX9_readsWhere_53 : decode cX9_readsWhere 53 = .ok (.iconst 1, 1) := by decide +kernel
theorem dX9_readsWhere_54 : decode cX9_readsWhere 54 = .ok (.aload_n 0, 1) := by decide +kernel
theorem dX9_readsWhere_55 : decode cX9_readsWhere 55 = .ok (.getfield 132, 3) := by decide +kernel
theorem dX9_readsWhere_58 : decode cX9_readsWhere 58 = .ok (.ishl, 1) := by decide +kernel
theorem dX9_readsWhere_59 : decode cX9_readsWhere 59 = .ok (.goto 4, 3) := by decide +kernel
theorem dX9_readsWhere_62 : decode cX9_readsWhere 62 = .ok (.iconst 0, 1) := by decide +kernel
theorem dX9_readsWhere_63 : decode cX9_readsWhere 63 = .ok (.ior, 1) := by decide +kernel
theorem dX9_readsWhere_64 : decode cX9_readsWhere 64 = .ok (.iastore, 1) := by decide +kernel
theorem dX9_readsWhere_65 : decode cX9_readsWhere 65 = .ok (.aload_n 0, 1) := by decide +kernel
theorem dX9_readsWhere_66 : decode cX9_readsWhere 66 = .ok (.getfield 19, 3) := by decide +kernel
theorem dX9_readsWhere_69 : decode cX9_readsWhere 69 = .ok (.iload_n 2, 1) := by decide +kernel
theorem dX9_readsWhere_70 : decode cX9_readsWhere 70 = .ok (.iload_n 1, 1) := by decide +kernel
theorem dX9_readsWhere_71 : decode cX9_readsWhere 71 = .ok (.ifCond .eq 12, 3) := by decide +kernel
theorem dX9_readsWhere_74 : decode cX9_readsWhere 74 = .ok (.aload_n 0, 1) := by decide +kernel
theorem dX9_readsWhere_75 : decode cX9_readsWhere 75 = .ok (.getfield 19, 3) := by decide +kernel
theorem dX9_readsWhere_78 : decode cX9_readsWhere 78 = .ok (.iload_n 2, 1) := by decide +kernel
theorem dX9_readsWhere_79 : decode cX9_readsWhere 79 = .ok (.iaload, 1) := by decide +kernel
theorem dX9_readsWhere_80 : decode cX9_readsWhere 80 = .ok (.goto 7, 3) := by decide +kernel
theorem dX9_readsWhere_83 : decode cX9_readsWhere 83 = .ok (.aload_n 0, 1) := by decide +kernel
theorem dX9_readsWhere_84 : decode cX9_readsWhere 84 = .ok (.getfield 132, 3) := by decide +kernel
theorem dX9_readsWhere_87 : decode cX9_readsWhere 87 = .ok (.iastore, 1) := by decide +kernel
theorem dX9_readsWhere_88 : decode cX9_readsWhere 88 = .ok (.aload_n 0, 1) := by decide +kernel
theorem dX9_readsWhere_89 : decode cX9_readsWhere 89 = .ok (.invokevirtual 139, 3) := by decide +kernel
theorem dX9_readsWhere_92 : decode cX9_readsWhere 92 = .ok (.ireturn, 1) := by decide +kernel
theorem dX9_readsCarpet_0 : decode cX9_readsCarpet 0 = .ok (.aload_n 0, 1) := by decide +kernel
theorem dX9_readsCarpet_1 : decode cX9_readsCarpet 1 = .ok (.iconst 0, 1) := by decide +kernel
theorem dX9_readsCarpet_2 : decode cX9_readsCarpet 2 = .ok (.bipush 6, 2) := by decide +kernel
theorem dX9_readsCarpet_4 : decode cX9_readsCarpet 4 = .ok (.invokevirtual 135, 3) := by decide +kernel
theorem dX9_readsCarpet_7 : decode cX9_readsCarpet 7 = .ok (.ifCond .ne 5, 3) := by decide +kernel
theorem dX9_readsCarpet_10 : decode cX9_readsCarpet 10 = .ok (.iconst 0, 1) := by decide +kernel
theorem dX9_readsCarpet_11 : decode cX9_readsCarpet 11 = .ok (.ireturn, 1) := by decide +kernel
theorem dX9_readsCarpet_12 : decode cX9_readsCarpet 12 = .ok (.aload_n 0, 1) := by decide +kernel
theorem dX9_readsCarpet_13 : decode cX9_readsCarpet 13 = .ok (.dup, 1) := by decide +kernel
theorem dX9_readsCarpet_14 : decode cX9_readsCarpet 14 = .ok (.getfield 76, 3) := by decide +kernel
theorem dX9_readsCarpet_17 : decode cX9_readsCarpet 17 = .ok (.iconst 1, 1) := by decide +kernel
theorem dX9_readsCarpet_18 : decode cX9_readsCarpet 18 = .ok (.aload_n 0, 1) := by decide +kernel
theorem dX9_readsCarpet_19 : decode cX9_readsCarpet 19 = .ok (.getfield 132, 3) := by decide +kernel
theorem dX9_readsCarpet_22 : decode cX9_readsCarpet 22 = .ok (.ishl, 1) := by decide +kernel
theorem dX9_readsCarpet_23 : decode cX9_readsCarpet 23 = .ok (.ior, 1) := by decide +kernel
theorem dX9_readsCarpet_24 : decode cX9_readsCarpet 24 = .ok (.putfield 76, 3) := by decide +kernel
theorem dX9_readsCarpet_27 : decode cX9_readsCarpet 27 = .ok (.aload_n 0, 1) := by decide +kernel
theorem dX9_readsCarpet_28 : decode cX9_readsCarpet 28 = .ok (.invokevirtual 139, 3) := by decide +kernel
theorem dX9_readsCarpet_31 : decode cX9_readsCarpet 31 = .ok (.ireturn, 1) := by decide +kernel
theorem dX9_readsMinutes_0 : decode cX9_readsMinutes 0 = .ok (.aload_n 0, 1) := by decide +kernel
theorem dX9_readsMinutes_1 : decode cX9_readsMinutes 1 = .ok (.iconst 1, 1) := by decide +kernel
theorem dX9_readsMinutes_2 : decode cX9_readsMinutes 2 = .ok (.bipush 99, 2) := by decide +kernel
theorem dX9_readsMinutes_4 : decode cX9_readsMinutes 4 = .ok (.invokevirtual 135, 3) := by decide +kernel
theorem dX9_readsMinutes_7 : decode cX9_readsMinutes 7 = .ok (.ifCond .ne 5, 3) := by decide +kernel
theorem dX9_readsMinutes_10 : decode cX9_readsMinutes 10 = .ok (.iconst 0, 1) := by decide +kernel
theorem dX9_readsMinutes_11 : decode cX9_readsMinutes 11 = .ok (.ireturn, 1) := by decide +kernel
theorem dX9_readsMinutes_12 : decode cX9_readsMinutes 12 = .ok (.aload_n 0, 1) := by decide +kernel
theorem dX9_readsMinutes_13 : decode cX9_readsMinutes 13 = .ok (.aload_n 0, 1) := by decide +kernel
theorem dX9_readsMinutes_14 : decode cX9_readsMinutes 14 = .ok (.getfield 132, 3) := by decide +kernel
theorem dX9_readsMinutes_17 : decode cX9_readsMinutes 17 = .ok (.invokevirtual 143, 3) := by decide +kernel
theorem dX9_readsMinutes_20 : decode cX9_readsMinutes 20 = .ok (.aload_n 0, 1) := by decide +kernel
theorem dX9_readsMinutes_21 : decode cX9_readsMinutes 21 = .ok (.invokevirtual 139, 3) := by decide +kernel
theorem dX9_readsMinutes_24 : decode cX9_readsMinutes 24 = .ok (.ireturn, 1) := by decide +kernel
theorem dX9_readsItem_0 : decode cX9_readsItem 0 = .ok (.aload_n 0, 1) := by decide +kernel
theorem dX9_readsItem_1 : decode cX9_readsItem 1 = .ok (.invokevirtual 147, 3) := by decide +kernel
theorem dX9_readsItem_4 : decode cX9_readsItem 4 = .ok (.istore_n 1, 1) := by decide +kernel
theorem dX9_readsItem_5 : decode cX9_readsItem 5 = .ok (.iload_n 1, 1) := by decide +kernel
theorem dX9_readsItem_6 : decode cX9_readsItem 6 = .ok (.iconst 1, 1) := by decide +kernel
theorem dX9_readsItem_7 : decode cX9_readsItem 7 = .ok (.if_icmp .lt 17, 3) := by decide +kernel
theorem dX9_readsItem_10 : decode cX9_readsItem 10 = .ok (.iload_n 1, 1) := by decide +kernel
theorem dX9_readsItem_11 : decode cX9_readsItem 11 = .ok (.iconst 1, 1) := by decide +kernel
theorem dX9_readsItem_12 : decode cX9_readsItem 12 = .ok (.if_icmp .ne 14, 3) := by decide +kernel
theorem dX9_readsItem_15 : decode cX9_readsItem 15 = .ok (.aload_n 0, 1) := by decide +kernel
theorem dX9_readsItem_16 : decode cX9_readsItem 16 = .ok (.getfield 69, 3) := by decide +kernel
theorem dX9_readsItem_19 : decode cX9_readsItem 19 = .ok (.bipush 6, 2) := by decide +kernel
theorem dX9_readsItem_21 : decode cX9_readsItem 21 = .ok (.if_icmp .ne 5, 3) := by decide +kernel
theorem dX9_readsItem_24 : decode cX9_readsItem 24 = .ok (.iconst 0, 1) := by decide +kernel
theorem dX9_readsItem_25 : decode cX9_readsItem 25 = .ok (.ireturn, 1) := by decide +kernel
theorem dX9_readsItem_26 : decode cX9_readsItem 26 = .ok (.aload_n 0, 1) := by decide +kernel
theorem dX9_readsItem_27 : decode cX9_readsItem 27 = .ok (.dup, 1) := by decide +kernel
theorem dX9_readsItem_28 : decode cX9_readsItem 28 = .ok (.getfield 109, 3) := by decide +kernel
theorem dX9_readsItem_31 : decode cX9_readsItem 31 = .ok (.aload_n 0, 1) := by decide +kernel
theorem dX9_readsItem_32 : decode cX9_readsItem 32 = .ok (.invokevirtual 119, 3) := by decide +kernel
theorem dX9_readsItem_35 : decode cX9_readsItem 35 = .ok (.iadd, 1) := by decide +kernel
theorem dX9_readsItem_36 : decode cX9_readsItem 36 = .ok (.putfield 109, 3) := by decide +kernel
theorem dX9_readsItem_39 : decode cX9_readsItem 39 = .ok (.iload_n 1, 1) := by decide +kernel
theorem dX9_readsItem_40 : decode cX9_readsItem 40 = .ok (.iconst 1, 1) := by decide +kernel
theorem dX9_readsItem_41 : decode cX9_readsItem 41 = .ok (.if_icmp .ne 10, 3) := by decide +kernel
theorem dX9_readsItem_44 : decode cX9_readsItem 44 = .ok (.aload_n 0, 1) := by decide +kernel
theorem dX9_readsItem_45 : decode cX9_readsItem 45 = .ok (.invokevirtual 150, 3) := by decide +kernel
theorem dX9_readsItem_48 : decode cX9_readsItem 48 = .ok (.goto 41, 3) := by decide +kernel
theorem dX9_readsItem_51 : decode cX9_readsItem 51 = .ok (.iload_n 1, 1) := by decide +kernel
theorem dX9_readsItem_52 : decode cX9_readsItem 52 = .ok (.iconst 3, 1) := by decide +kernel
theorem dX9_readsItem_53 : decode cX9_readsItem 53 = .ok (.if_icmp .ne 10, 3) := by decide +kernel
theorem dX9_readsItem_56 : decode cX9_readsItem 56 = .ok (.aload_n 0, 1) := by decide +kernel
theorem dX9_readsItem_57 : decode cX9_readsItem 57 = .ok (.invokevirtual 153, 3) := by decide +kernel
theorem dX9_readsItem_60 : decode cX9_readsItem 60 = .ok (.goto 29, 3) := by decide +kernel
theorem dX9_readsItem_63 : decode cX9_readsItem 63 = .ok (.iload_n 1, 1) := by decide +kernel
theorem dX9_readsItem_64 : decode cX9_readsItem 64 = .ok (.iconst 5, 1) := by decide +kernel
theorem dX9_readsItem_65 : decode cX9_readsItem 65 = .ok (.if_icmp .ne 10, 3) := by decide +kernel
theorem dX9_readsItem_68 : decode cX9_readsItem 68 = .ok (.aload_n 0, 1) := by decide +kernel
theorem dX9_readsItem_69 : decode cX9_readsItem 69 = .ok (.invokevirtual 156, 3) := by decide +kernel
theorem dX9_readsItem_72 : decode cX9_readsItem 72 = .ok (.goto 17, 3) := by decide +kernel
theorem dX9_readsItem_75 : decode cX9_readsItem 75 = .ok (.aload_n 0, 1) := by decide +kernel
theorem dX9_readsItem_76 : decode cX9_readsItem 76 = .ok (.iload_n 1, 1) := by decide +kernel
theorem dX9_readsItem_77 : decode cX9_readsItem 77 = .ok (.iconst 2, 1) := by decide +kernel
theorem dX9_readsItem_78 : decode cX9_readsItem 78 = .ok (.if_icmp .ne 7, 3) := by decide +kernel
theorem dX9_readsItem_81 : decode cX9_readsItem 81 = .ok (.iconst 1, 1) := by decide +kernel
theorem dX9_readsItem_82 : decode cX9_readsItem 82 = .ok (.goto 4, 3) := by decide +kernel
theorem dX9_readsItem_85 : decode cX9_readsItem 85 = .ok (.iconst 0, 1) := by decide +kernel
theorem dX9_readsItem_86 : decode cX9_readsItem 86 = .ok (.invokevirtual 159, 3) := by decide +kernel
theorem dX9_readsItem_89 : decode cX9_readsItem 89 = .ok (.ireturn, 1) := by decide +kernel
theorem dX9_readsFirst_0 : decode cX9_readsFirst 0 = .ok (.aload_n 0, 1) := by decide +kernel
theorem dX9_readsFirst_1 : decode cX9_readsFirst 1 = .ok (.invokevirtual 126, 3) := by decide +kernel
theorem dX9_readsFirst_4 : decode cX9_readsFirst 4 = .ok (.aload_n 0, 1) := by decide +kernel
theorem dX9_readsFirst_5 : decode cX9_readsFirst 5 = .ok (.invokevirtual 147, 3) := by decide +kernel
theorem dX9_readsFirst_8 : decode cX9_readsFirst 8 = .ok (.ifCond .eq 5, 3) := by decide +kernel
theorem dX9_readsFirst_11 : decode cX9_readsFirst 11 = .ok (.iconst 0, 1) := by decide +kernel
theorem dX9_readsFirst_12 : decode cX9_readsFirst 12 = .ok (.ireturn, 1) := by decide +kernel
theorem dX9_readsFirst_13 : decode cX9_readsFirst 13 = .ok (.aload_n 0, 1) := by decide +kernel
theorem dX9_readsFirst_14 : decode cX9_readsFirst 14 = .ok (.dup, 1) := by decide +kernel
theorem dX9_readsFirst_15 : decode cX9_readsFirst 15 = .ok (.getfield 109, 3) := by decide +kernel
theorem dX9_readsFirst_18 : decode cX9_readsFirst 18 = .ok (.aload_n 0, 1) := by decide +kernel
theorem dX9_readsFirst_19 : decode cX9_readsFirst 19 = .ok (.invokevirtual 119, 3) := by decide +kernel
theorem dX9_readsFirst_22 : decode cX9_readsFirst 22 = .ok (.iadd, 1) := by decide +kernel
theorem dX9_readsFirst_23 : decode cX9_readsFirst 23 = .ok (.putfield 109, 3) := by decide +kernel
theorem dX9_readsFirst_26 : decode cX9_readsFirst 26 = .ok (.aload_n 0, 1) := by decide +kernel
theorem dX9_readsFirst_27 : decode cX9_readsFirst 27 = .ok (.invokevirtual 66, 3) := by decide +kernel
theorem dX9_readsFirst_30 : decode cX9_readsFirst 30 = .ok (.iconst 0, 1) := by decide +kernel
theorem dX9_readsFirst_31 : decode cX9_readsFirst 31 = .ok (.istore_n 1, 1) := by decide +kernel
theorem dX9_readsFirst_32 : decode cX9_readsFirst 32 = .ok (.iload_n 1, 1) := by decide +kernel
theorem dX9_readsFirst_33 : decode cX9_readsFirst 33 = .ok (.bipush 8, 2) := by decide +kernel
theorem dX9_readsFirst_35 : decode cX9_readsFirst 35 = .ok (.if_icmp .ge 30, 3) := by decide +kernel
theorem dX9_readsFirst_38 : decode cX9_readsFirst 38 = .ok (.aload_n 0, 1) := by decide +kernel
theorem dX9_readsFirst_39 : decode cX9_readsFirst 39 = .ok (.iconst 0, 1) := by decide +kernel
theorem dX9_readsFirst_40 : decode cX9_readsFirst 40 = .ok (.iconst 5, 1) := by decide +kernel
theorem dX9_readsFirst_41 : decode cX9_readsFirst 41 = .ok (.invokevirtual 135, 3) := by decide +kernel
theorem dX9_readsFirst_44 : decode cX9_readsFirst 44 = .ok (.ifCond .ne 5, 3) := by decide +kernel
theorem dX9_readsFirst_47 : decode cX9_readsFirst 47 = .ok (.iconst 0, 1) := by decide +kernel
theorem dX9_readsFirst_48 : decode cX9_readsFirst 48 = .ok (.ireturn, 1) := by decide +kernel
theorem dX9_readsFirst_49 : decode cX9_readsFirst 49 = .ok (.aload_n 0, 1) := by decide +kernel
theorem dX9_readsFirst_50 : decode cX9_readsFirst 50 = .ok (.getfield 25, 3) := by decide +kernel
theorem dX9_readsFirst_53 : decode cX9_readsFirst 53 = .ok (.iload_n 1, 1) := by decide +kernel
theorem dX9_readsFirst_54 : decode cX9_readsFirst 54 = .ok (.aload_n 0, 1) := by decide +kernel
theorem dX9_readsFirst_55 : decode cX9_readsFirst 55 = .ok (.getfield 132, 3) := by decide +kernel
theorem dX9_readsFirst_58 : decode cX9_readsFirst 58 = .ok (.iastore, 1) := by decide +kernel
theorem dX9_readsFirst_59 : decode cX9_readsFirst 59 = .ok (.iinc 1 1, 3) := by decide +kernel
theorem dX9_readsFirst_62 : decode cX9_readsFirst 62 = .ok (.goto (-30), 3) := by decide +kernel
theorem dX9_readsFirst_65 : decode cX9_readsFirst 65 = .ok (.aload_n 0, 1) := by decide +kernel
theorem dX9_readsFirst_66 : decode cX9_readsFirst 66 = .ok (.invokevirtual 139, 3) := by decide +kernel
theorem dX9_readsFirst_69 : decode cX9_readsFirst 69 = .ok (.ireturn, 1) := by decide +kernel
theorem dX9_readsHouse_0 : decode cX9_readsHouse 0 = .ok (.aload_n 0, 1) := by decide +kernel
theorem dX9_readsHouse_1 : decode cX9_readsHouse 1 = .ok (.iconst 0, 1) := by decide +kernel
theorem dX9_readsHouse_2 : decode cX9_readsHouse 2 = .ok (.putfield 109, 3) := by decide +kernel
theorem dX9_readsHouse_5 : decode cX9_readsHouse 5 = .ok (.aload_n 0, 1) := by decide +kernel
theorem dX9_readsHouse_6 : decode cX9_readsHouse 6 = .ok (.invokevirtual 163, 3) := by decide +kernel
theorem dX9_readsHouse_9 : decode cX9_readsHouse 9 = .ok (.ifCond .ne 5, 3) := by decide +kernel
theorem dX9_readsHouse_12 : decode cX9_readsHouse 12 = .ok (.iconst (-1), 1) := by decide +kernel
theorem dX9_readsHouse_13 : decode cX9_readsHouse 13 = .ok (.ireturn, 1) := by decide +kernel
theorem dX9_readsHouse_14 : decode cX9_readsHouse 14 = .ok (.iconst 1, 1) := by decide +kernel
theorem dX9_readsHouse_15 : decode cX9_readsHouse 15 = .ok (.istore_n 1, 1) := by decide +kernel
theorem dX9_readsHouse_16 : decode cX9_readsHouse 16 = .ok (.aload_n 0, 1) := by decide +kernel
theorem dX9_readsHouse_17 : decode cX9_readsHouse 17 = .ok (.invokevirtual 126, 3) := by decide +kernel
theorem dX9_readsHouse_20 : decode cX9_readsHouse 20 = .ok (.aload_n 0, 1) := by decide +kernel
theorem dX9_readsHouse_21 : decode cX9_readsHouse 21 = .ok (.getfield 109, 3) := by decide +kernel
theorem dX9_readsHouse_24 : decode cX9_readsHouse 24 = .ok (.aload_n 0, 1) := by decide +kernel
theorem dX9_readsHouse_25 : decode cX9_readsHouse 25 = .ok (.getfield 106, 3) := by decide +kernel
theorem dX9_readsHouse_28 : decode cX9_readsHouse 28 = .ok (.if_icmp .ge 22, 3) := by decide +kernel
theorem dX9_readsHouse_31 : decode cX9_readsHouse 31 = .ok (.aload_n 0, 1) := by decide +kernel
theorem dX9_readsHouse_32 : decode cX9_readsHouse 32 = .ok (.invokevirtual 166, 3) := by decide +kernel
theorem dX9_readsHouse_35 : decode cX9_readsHouse 35 = .ok (.ifCond .ne 5, 3) := by decide +kernel
theorem dX9_readsHouse_38 : decode cX9_readsHouse 38 = .ok (.iconst (-1), 1) := by decide +kernel
theorem dX9_readsHouse_39 : decode cX9_readsHouse 39 = .ok (.ireturn, 1) := by decide +kernel
theorem dX9_readsHouse_40 : decode cX9_readsHouse 40 = .ok (.iinc 1 1, 3) := by decide +kernel
theorem dX9_readsHouse_43 : decode cX9_readsHouse 43 = .ok (.aload_n 0, 1) := by decide +kernel
theorem dX9_readsHouse_44 : decode cX9_readsHouse 44 = .ok (.invokevirtual 126, 3) := by decide +kernel
theorem dX9_readsHouse_47 : decode cX9_readsHouse 47 = .ok (.goto (-27), 3) := by decide +kernel
theorem dX9_readsHouse_50 : decode cX9_readsHouse 50 = .ok (.iload_n 1, 1) := by decide +kernel
theorem dX9_readsHouse_51 : decode cX9_readsHouse 51 = .ok (.ireturn, 1) := by decide +kernel
theorem dX9_read_0 : decode cX9_read 0 = .ok (.aload_n 0, 1) := by decide +kernel
theorem dX9_read_1 : decode cX9_read 1 = .ok (.aload_n 0, 1) := by decide +kernel
theorem dX9_read_2 : decode cX9_read 2 = .ok (.getfield 40, 3) := by decide +kernel
theorem dX9_read_5 : decode cX9_read 5 = .ok (.iconst 0, 1) := by decide +kernel
theorem dX9_read_6 : decode cX9_read 6 = .ok (.invokevirtual 169, 3) := by decide +kernel
theorem dX9_read_9 : decode cX9_read 9 = .ok (.aload_n 0, 1) := by decide +kernel
theorem dX9_read_10 : decode cX9_read 10 = .ok (.invokevirtual 173, 3) := by decide +kernel
theorem dX9_read_13 : decode cX9_read 13 = .ok (.istore_n 1, 1) := by decide +kernel
theorem dX9_read_14 : decode cX9_read 14 = .ok (.iload_n 1, 1) := by decide +kernel
theorem dX9_read_15 : decode cX9_read 15 = .ok (.ifCond .ge 20, 3) := by decide +kernel
theorem dX9_read_18 : decode cX9_read 18 = .ok (.aload_n 0, 1) := by decide +kernel
theorem dX9_read_19 : decode cX9_read 19 = .ok (.aload_n 0, 1) := by decide +kernel
theorem dX9_read_20 : decode cX9_read 20 = .ok (.getfield 40, 3) := by decide +kernel
theorem dX9_read_23 : decode cX9_read 23 = .ok (.iconst 0, 1) := by decide +kernel
theorem dX9_read_24 : decode cX9_read 24 = .ok (.invokevirtual 176, 3) := by decide +kernel
theorem dX9_read_27 : decode cX9_read 27 = .ok (.bipush (-10), 2) := by decide +kernel
theorem dX9_read_29 : decode cX9_read 29 = .ok (.aload_n 0, 1) := by decide +kernel
theorem dX9_read_30 : decode cX9_read 30 = .ok (.getfield 109, 3) := by decide +kernel
theorem dX9_read_33 : decode cX9_read 33 = .ok (.isub, 1) := by decide +kernel
theorem dX9_read_34 : decode cX9_read 34 = .ok (.ireturn, 1) := by decide +kernel
theorem dX9_read_35 : decode cX9_read 35 = .ok (.aload_n 0, 1) := by decide +kernel
theorem dX9_read_36 : decode cX9_read 36 = .ok (.iconst 0, 1) := by decide +kernel
theorem dX9_read_37 : decode cX9_read 37 = .ok (.putfield 88, 3) := by decide +kernel
theorem dX9_read_40 : decode cX9_read 40 = .ok (.iload_n 1, 1) := by decide +kernel
theorem dX9_read_41 : decode cX9_read 41 = .ok (.ireturn, 1) := by decide +kernel
theorem dX9_wantsBy_0 : decode cX9_wantsBy 0 = .ok (.iconst 1, 1) := by decide +kernel
theorem dX9_wantsBy_1 : decode cX9_wantsBy 1 = .ok (.iload_n 1, 1) := by decide +kernel
theorem dX9_wantsBy_2 : decode cX9_wantsBy 2 = .ok (.iconst 4, 1) := by decide +kernel
theorem dX9_wantsBy_3 : decode cX9_wantsBy 3 = .ok (.idiv, 1) := by decide +kernel
theorem dX9_wantsBy_4 : decode cX9_wantsBy 4 = .ok (.iadd, 1) := by decide +kernel
theorem dX9_wantsBy_5 : decode cX9_wantsBy 5 = .ok (.istore_n 3, 1) := by decide +kernel
theorem dX9_wantsBy_6 : decode cX9_wantsBy 6 = .ok (.iload_n 0, 1) := by decide +kernel
theorem dX9_wantsBy_7 : decode cX9_wantsBy 7 = .ok (.tableswitch 69 1 5 #[33, 35, 37, 50, 61], 33) := by decide +kernel
theorem dX9_wantsBy_40 : decode cX9_wantsBy 40 = .ok (.iconst 2, 1) := by decide +kernel
theorem dX9_wantsBy_41 : decode cX9_wantsBy 41 = .ok (.ireturn, 1) := by decide +kernel
theorem dX9_wantsBy_42 : decode cX9_wantsBy 42 = .ok (.iload_n 3, 1) := by decide +kernel
theorem dX9_wantsBy_43 : decode cX9_wantsBy 43 = .ok (.ireturn, 1) := by decide +kernel
theorem dX9_wantsBy_44 : decode cX9_wantsBy 44 = .ok (.iload_n 2, 1) := by decide +kernel
theorem dX9_wantsBy_45 : decode cX9_wantsBy 45 = .ok (.iconst 2, 1) := by decide +kernel
theorem dX9_wantsBy_46 : decode cX9_wantsBy 46 = .ok (.irem, 1) := by decide +kernel
theorem dX9_wantsBy_47 : decode cX9_wantsBy 47 = .ok (.iconst 1, 1) := by decide +kernel
theorem dX9_wantsBy_48 : decode cX9_wantsBy 48 = .ok (.if_icmp .ne 7, 3) := by decide +kernel
theorem dX9_wantsBy_51 : decode cX9_wantsBy 51 = .ok (.iconst 4, 1) := by decide +kernel
theorem dX9_wantsBy_52 : decode cX9_wantsBy 52 = .ok (.goto 4, 3) := by decide +kernel
theorem dX9_wantsBy_55 : decode cX9_wantsBy 55 = .ok (.iconst 2, 1) := by decide +kernel
theorem dX9_wantsBy_56 : decode cX9_wantsBy 56 = .ok (.ireturn, 1) := by decide +kernel
theorem dX9_wantsBy_57 : decode cX9_wantsBy 57 = .ok (.iload_n 1, 1) := by decide +kernel
theorem dX9_wantsBy_58 : decode cX9_wantsBy 58 = .ok (.iconst 5, 1) := by decide +kernel
theorem dX9_wantsBy_59 : decode cX9_wantsBy 59 = .ok (.if_icmp .gt 7, 3) := by decide +kernel
theorem dX9_wantsBy_62 : decode cX9_wantsBy 62 = .ok (.iconst 0, 1) := by decide +kernel
theorem dX9_wantsBy_63 : decode cX9_wantsBy 63 = .ok (.goto 4, 3) := by decide +kernel
theorem dX9_wantsBy_66 : decode cX9_wantsBy 66 = .ok (.iconst 1, 1) := by decide +kernel
theorem dX9_wantsBy_67 : decode cX9_wantsBy 67 = .ok (.ireturn, 1) := by decide +kernel
theorem dX9_wantsBy_68 : decode cX9_wantsBy 68 = .ok (.iconst 5, 1) := by decide +kernel
theorem dX9_wantsBy_69 : decode cX9_wantsBy 69 = .ok (.iconst 2, 1) := by decide +kernel
theorem dX9_wantsBy_70 : decode cX9_wantsBy 70 = .ok (.iload_n 3, 1) := by decide +kernel
theorem dX9_wantsBy_71 : decode cX9_wantsBy 71 = .ok (.imul, 1) := by decide +kernel
theorem dX9_wantsBy_72 : decode cX9_wantsBy 72 = .ok (.invokestatic 179, 3) := by decide +kernel
theorem dX9_wantsBy_75 : decode cX9_wantsBy 75 = .ok (.ireturn, 1) := by decide +kernel
theorem dX9_wantsBy_76 : decode cX9_wantsBy 76 = .ok (.iconst 1, 1) := by decide +kernel
theorem dX9_wantsBy_77 : decode cX9_wantsBy 77 = .ok (.ireturn, 1) := by decide +kernel
theorem dX9_worthBy_0 : decode cX9_worthBy 0 = .ok (.iload_n 0, 1) := by decide +kernel
theorem dX9_worthBy_1 : decode cX9_worthBy 1 = .ok (.tableswitch 85 1 5 #[35, 37, 49, 60, 73], 35) := by decide +kernel
theorem dX9_worthBy_36 : decode cX9_worthBy 36 = .ok (.iconst 2, 1) := by decide +kernel
theorem dX9_worthBy_37 : decode cX9_worthBy 37 = .ok (.ireturn, 1) := by decide +kernel
theorem dX9_worthBy_38 : decode cX9_worthBy 38 = .ok (.iload_n 1, 1) := by decide +kernel
theorem dX9_worthBy_39 : decode cX9_worthBy 39 = .ok (.bipush 18, 2) := by decide +kernel
theorem dX9_worthBy_41 : decode cX9_worthBy 41 = .ok (.if_icmp .lt 7, 3) := by decide +kernel
theorem dX9_worthBy_44 : decode cX9_worthBy 44 = .ok (.iconst 0, 1) := by decide +kernel
theorem dX9_worthBy_45 : decode cX9_worthBy 45 = .ok (.goto 4, 3) := by decide +kernel
theorem dX9_worthBy_48 : decode cX9_worthBy 48 = .ok (.iconst 1, 1) := by decide +kernel
theorem dX9_worthBy_49 : decode cX9_worthBy 49 = .ok (.ireturn, 1) := by decide +kernel
theorem dX9_worthBy_50 : decode cX9_worthBy 50 = .ok (.iload_n 2, 1) := by decide +kernel
theorem dX9_worthBy_51 : decode cX9_worthBy 51 = .ok (.iconst (-1), 1) := by decide +kernel
theorem dX9_worthBy_52 : decode cX9_worthBy 52 = .ok (.if_icmp .ne 7, 3) := by decide +kernel
theorem dX9_worthBy_55 : decode cX9_worthBy 55 = .ok (.iconst 1, 1) := by decide +kernel
theorem dX9_worthBy_56 : decode cX9_worthBy 56 = .ok (.goto 4, 3) := by decide +kernel
theorem dX9_worthBy_59 : decode cX9_worthBy 59 = .ok (.iconst 2, 1) := by decide +kernel
theorem dX9_worthBy_60 : decode cX9_worthBy 60 = .ok (.ireturn, 1) := by decide +kernel
theorem dX9_worthBy_61 : decode cX9_worthBy 61 = .ok (.iload_n 1, 1) := by decide +kernel
theorem dX9_worthBy_62 : decode cX9_worthBy 62 = .ok (.iconst 2, 1) := by decide +kernel
theorem dX9_worthBy_63 : decode cX9_worthBy 63 = .ok (.irem, 1) := by decide +kernel
theorem dX9_worthBy_64 : decode cX9_worthBy 64 = .ok (.iconst 1, 1) := by decide +kernel
theorem dX9_worthBy_65 : decode cX9_worthBy 65 = .ok (.if_icmp .ne 7, 3) := by decide +kernel
theorem dX9_worthBy_68 : decode cX9_worthBy 68 = .ok (.iconst 1, 1) := by decide +kernel
theorem dX9_worthBy_69 : decode cX9_worthBy 69 = .ok (.goto 4, 3) := by decide +kernel
theorem dX9_worthBy_72 : decode cX9_worthBy 72 = .ok (.iconst 0, 1) := by decide +kernel
theorem dX9_worthBy_73 : decode cX9_worthBy 73 = .ok (.ireturn, 1) := by decide +kernel
theorem dX9_worthBy_74 : decode cX9_worthBy 74 = .ok (.iload_n 1, 1) := by decide +kernel
theorem dX9_worthBy_75 : decode cX9_worthBy 75 = .ok (.bipush 18, 2) := by decide +kernel
theorem dX9_worthBy_77 : decode cX9_worthBy 77 = .ok (.if_icmp .lt 7, 3) := by decide +kernel
theorem dX9_worthBy_80 : decode cX9_worthBy 80 = .ok (.iconst 4, 1) := by decide +kernel
theorem dX9_worthBy_81 : decode cX9_worthBy 81 = .ok (.goto 4, 3) := by decide +kernel
theorem dX9_worthBy_84 : decode cX9_worthBy 84 = .ok (.iconst 2, 1) := by decide +kernel
theorem dX9_worthBy_85 : decode cX9_worthBy 85 = .ok (.ireturn, 1) := by decide +kernel
theorem dX9_worthBy_86 : decode cX9_worthBy 86 = .ok (.iconst 1, 1) := by decide +kernel
theorem dX9_worthBy_87 : decode cX9_worthBy 87 = .ok (.ireturn, 1) := by decide +kernel
theorem dX9_wants_0 : decode cX9_wants 0 = .ok (.aload_n 0, 1) := by decide +kernel
theorem dX9_wants_1 : decode cX9_wants 1 = .ok (.getfield 25, 3) := by decide +kernel
theorem dX9_wants_4 : decode cX9_wants 4 = .ok (.iload_n 2, 1) := by decide +kernel
theorem dX9_wants_5 : decode cX9_wants 5 = .ok (.iaload, 1) := by decide +kernel
theorem dX9_wants_6 : decode cX9_wants 6 = .ok (.aload_n 0, 1) := by decide +kernel
theorem dX9_wants_7 : decode cX9_wants 7 = .ok (.getfield 16, 3) := by decide +kernel
theorem dX9_wants_10 : decode cX9_wants 10 = .ok (.iload_n 1, 1) := by decide +kernel
theorem dX9_wants_11 : decode cX9_wants 11 = .ok (.iaload, 1) := by decide +kernel
theorem dX9_wants_12 : decode cX9_wants 12 = .ok (.iload_n 3, 1) := by decide +kernel
theorem dX9_wants_13 : decode cX9_wants 13 = .ok (.invokestatic 182, 3) := by decide +kernel
theorem dX9_wants_16 : decode cX9_wants 16 = .ok (.ireturn, 1) := by decide +kernel
theorem dX9_worth_0 : decode cX9_worth 0 = .ok (.aload_n 0, 1) := by decide +kernel
theorem dX9_worth_1 : decode cX9_worth 1 = .ok (.getfield 13, 3) := by decide +kernel
theorem dX9_worth_4 : decode cX9_worth 4 = .ok (.iload_n 1, 1) := by decide +kernel
theorem dX9_worth_5 : decode cX9_worth 5 = .ok (.iaload, 1) := by decide +kernel
theorem dX9_worth_6 : decode cX9_worth 6 = .ok (.iload_n 2, 1) := by decide +kernel
theorem dX9_worth_7 : decode cX9_worth 7 = .ok (.aload_n 0, 1) := by decide +kernel
theorem dX9_worth_8 : decode cX9_worth 8 = .ok (.getfield 19, 3) := by decide +kernel
theorem dX9_worth_11 : decode cX9_worth 11 = .ok (.iload_n 1, 1) := by decide +kernel
theorem dX9_worth_12 : decode cX9_worth 12 = .ok (.iaload, 1) := by decide +kernel
theorem dX9_worth_13 : decode cX9_worth 13 = .ok (.invokestatic 186, 3) := by decide +kernel
theorem dX9_worth_16 : decode cX9_worth 16 = .ok (.ireturn, 1) := by decide +kernel
theorem dX9_wordFor_0 : decode cX9_wordFor 0 = .ok (.iconst 0, 1) := by decide +kernel
theorem dX9_wordFor_1 : decode cX9_wordFor 1 = .ok (.istore 4, 2) := by decide +kernel
theorem dX9_wordFor_3 : decode cX9_wordFor 3 = .ok (.iconst 0, 1) := by decide +kernel
theorem dX9_wordFor_4 : decode cX9_wordFor 4 = .ok (.istore 5, 2) := by decide +kernel
theorem dX9_wordFor_6 : decode cX9_wordFor 6 = .ok (.iload 5, 2) := by decide +kernel
theorem dX9_wordFor_8 : decode cX9_wordFor 8 = .ok (.aload_n 0, 1) := by decide +kernel
theorem dX9_wordFor_9 : decode cX9_wordFor 9 = .ok (.getfield 69, 3) := by decide +kernel
theorem dX9_wordFor_12 : decode cX9_wordFor 12 = .ok (.if_icmp .ge 45, 3) := by decide +kernel
theorem dX9_wordFor_15 : decode cX9_wordFor 15 = .ok (.iload 4, 2) := by decide +kernel
theorem dX9_wordFor_17 : decode cX9_wordFor 17 = .ok (.iload 5, 2) := by decide +kernel
theorem dX9_wordFor_19 : decode cX9_wordFor 19 = .ok (.iload_n 1, 1) := by decide +kernel
theorem dX9_wordFor_20 : decode cX9_wordFor 20 = .ok (.if_icmp .eq 27, 3) := by decide +kernel
theorem dX9_wordFor_23 : decode cX9_wordFor 23 = .ok (.aload_n 0, 1) := by decide +kernel
theorem dX9_wordFor_24 : decode cX9_wordFor 24 = .ok (.getfield 22, 3) := by decide +kernel
theorem dX9_wordFor_27 : decode cX9_wordFor 27 = .ok (.iload 5, 2) := by decide +kernel
theorem dX9_wordFor_29 : decode cX9_wordFor 29 = .ok (.iaload, 1) := by decide +kernel
theorem dX9_wordFor_30 : decode cX9_wordFor 30 = .ok (.iload_n 2, 1) := by decide +kernel
theorem dX9_wordFor_31 : decode cX9_wordFor 31 = .ok (.invokestatic 189, 3) := by decide +kernel
theorem dX9_wordFor_34 : decode cX9_wordFor 34 = .ok (.ifCond .eq 13, 3) := by decide +kernel
theorem dX9_wordFor_37 : decode cX9_wordFor 37 = .ok (.aload_n 0, 1) := by decide +kernel
theorem dX9_wordFor_38 : decode cX9_wordFor 38 = .ok (.iload 5, 2) := by decide +kernel
theorem dX9_wordFor_40 : decode cX9_wordFor 40 = .ok (.iload_n 3, 1) := by decide +kernel
theorem dX9_wordFor_41 : decode cX9_wordFor 41 = .ok (.invokevirtual 192, 3) := by decide +kernel
theorem dX9_wordFor_44 : decode cX9_wordFor 44 = .ok (.goto 4, 3) := by decide +kernel
theorem dX9_wordFor_47 : decode cX9_wordFor 47 = .ok (.iconst 0, 1) := by decide +kernel
theorem dX9_wordFor_48 : decode cX9_wordFor 48 = .ok (.iadd, 1) := by decide +kernel
theorem dX9_wordFor_49 : decode cX9_wordFor 49 = .ok (.istore 4, 2) := by decide +kernel
theorem dX9_wordFor_51 : decode cX9_wordFor 51 = .ok (.iinc 5 1, 3) := by decide +kernel
theorem dX9_wordFor_54 : decode cX9_wordFor 54 = .ok (.goto (-48), 3) := by decide +kernel
theorem dX9_wordFor_57 : decode cX9_wordFor 57 = .ok (.iload 4, 2) := by decide +kernel
theorem dX9_wordFor_59 : decode cX9_wordFor 59 = .ok (.ireturn, 1) := by decide +kernel
theorem dX9_dayMinute_0 : decode cX9_dayMinute 0 = .ok (.aload_n 0, 1) := by decide +kernel
theorem dX9_dayMinute_1 : decode cX9_dayMinute 1 = .ok (.getfield 73, 3) := by decide +kernel
theorem dX9_dayMinute_4 : decode cX9_dayMinute 4 = .ok (.bipush 24, 2) := by decide +kernel
theorem dX9_dayMinute_6 : decode cX9_dayMinute 6 = .ok (.irem, 1) := by decide +kernel
theorem dX9_dayMinute_7 : decode cX9_dayMinute 7 = .ok (.ireturn, 1) := by decide +kernel
theorem dX9_mayMeet_0 : decode cX9_mayMeet 0 = .ok (.aload_n 0, 1) := by decide +kernel
theorem dX9_mayMeet_1 : decode cX9_mayMeet 1 = .ok (.iload_n 1, 1) := by decide +kernel
theorem dX9_mayMeet_2 : decode cX9_mayMeet 2 = .ok (.iload_n 2, 1) := by decide +kernel
theorem dX9_mayMeet_3 : decode cX9_mayMeet 3 = .ok (.iload_n 3, 1) := by decide +kernel
theorem dX9_mayMeet_4 : decode cX9_mayMeet 4 = .ok (.invokevirtual 195, 3) := by decide +kernel
theorem dX9_mayMeet_7 : decode cX9_mayMeet 7 = .ok (.aload_n 0, 1) := by decide +kernel
theorem dX9_mayMeet_8 : decode cX9_mayMeet 8 = .ok (.iload_n 1, 1) := by decide +kernel
theorem dX9_mayMeet_9 : decode cX9_mayMeet 9 = .ok (.iload_n 2, 1) := by decide +kernel
theorem dX9_mayMeet_10 : decode cX9_mayMeet 10 = .ok (.iload_n 3, 1) := by decide +kernel
theorem dX9_mayMeet_11 : decode cX9_mayMeet 11 = .ok (.invokevirtual 198, 3) := by decide +kernel
theorem dX9_mayMeet_14 : decode cX9_mayMeet 14 = .ok (.if_icmp .lt 7, 3) := by decide +kernel
theorem dX9_mayMeet_17 : decode cX9_mayMeet 17 = .ok (.iconst 1, 1) := by decide +kernel
theorem dX9_mayMeet_18 : decode cX9_mayMeet 18 = .ok (.goto 4, 3) := by decide +kernel
theorem dX9_mayMeet_21 : decode cX9_mayMeet 21 = .ok (.iconst 0, 1) := by decide +kernel
theorem dX9_mayMeet_22 : decode cX9_mayMeet 22 = .ok (.ireturn, 1) := by decide +kernel
theorem dX9_knownAll_0 : decode cX9_knownAll 0 = .ok (.iconst 0, 1) := by decide +kernel
theorem dX9_knownAll_1 : decode cX9_knownAll 1 = .ok (.istore_n 1, 1) := by decide +kernel
theorem dX9_knownAll_2 : decode cX9_knownAll 2 = .ok (.iconst 0, 1) := by decide +kernel
theorem dX9_knownAll_3 : decode cX9_knownAll 3 = .ok (.istore_n 2, 1) := by decide +kernel
theorem dX9_knownAll_4 : decode cX9_knownAll 4 = .ok (.iload_n 2, 1) := by decide +kernel
theorem dX9_knownAll_5 : decode cX9_knownAll 5 = .ok (.aload_n 0, 1) := by decide +kernel
theorem dX9_knownAll_6 : decode cX9_knownAll 6 = .ok (.getfield 69, 3) := by decide +kernel
theorem dX9_knownAll_9 : decode cX9_knownAll 9 = .ok (.if_icmp .ge 21, 3) := by decide +kernel
theorem dX9_knownAll_12 : decode cX9_knownAll 12 = .ok (.iload_n 1, 1) := by decide +kernel
theorem dX9_knownAll_13 : decode cX9_knownAll 13 = .ok (.aload_n 0, 1) := by decide +kernel
theorem dX9_knownAll_14 : decode cX9_knownAll 14 = .ok (.getfield 22, 3) := by decide +kernel
theorem dX9_knownAll_17 : decode cX9_knownAll 17 = .ok (.iload_n 2, 1) := by decide +kernel
theorem dX9_knownAll_18 : decode cX9_knownAll 18 = .ok (.iaload, 1) := by decide +kernel
theorem dX9_knownAll_19 : decode cX9_knownAll 19 = .ok (.invokestatic 201, 3) := by decide +kernel
theorem dX9_knownAll_22 : decode cX9_knownAll 22 = .ok (.iadd, 1) := by decide +kernel
theorem dX9_knownAll_23 : decode cX9_knownAll 23 = .ok (.istore_n 1, 1) := by decide +kernel
theorem dX9_knownAll_24 : decode cX9_knownAll 24 = .ok (.iinc 2 1, 3) := by decide +kernel
theorem dX9_knownAll_27 : decode cX9_knownAll 27 = .ok (.goto (-23), 3) := by decide +kernel
theorem dX9_knownAll_30 : decode cX9_knownAll 30 = .ok (.iload_n 1, 1) := by decide +kernel
theorem dX9_knownAll_31 : decode cX9_knownAll 31 = .ok (.ireturn, 1) := by decide +kernel
theorem dX9_passes_0 : decode cX9_passes 0 = .ok (.iconst 0, 1) := by decide +kernel
theorem dX9_passes_1 : decode cX9_passes 1 = .ok (.istore_n 1, 1) := by decide +kernel
theorem dX9_passes_2 : decode cX9_passes 2 = .ok (.iconst 1, 1) := by decide +kernel
theorem dX9_passes_3 : decode cX9_passes 3 = .ok (.istore_n 2, 1) := by decide +kernel
theorem dX9_passes_4 : decode cX9_passes 4 = .ok (.iload_n 2, 1) := by decide +kernel
theorem dX9_passes_5 : decode cX9_passes 5 = .ok (.bipush 8, 2) := by decide +kernel
theorem dX9_passes_7 : decode cX9_passes 7 = .ok (.if_icmp .ge 51, 3) := by decide +kernel
theorem dX9_passes_10 : decode cX9_passes 10 = .ok (.iload_n 1, 1) := by decide +kernel
theorem dX9_passes_11 : decode cX9_passes 11 = .ok (.aload_n 0, 1) := by decide +kernel
theorem dX9_passes_12 : decode cX9_passes 12 = .ok (.getfield 76, 3) := by decide +kernel
theorem dX9_passes_15 : decode cX9_passes 15 = .ok (.iload_n 2, 1) := by decide +kernel
theorem dX9_passes_16 : decode cX9_passes 16 = .ok (.iconst 1, 1) := by decide +kernel
theorem dX9_passes_17 : decode cX9_passes 17 = .ok (.isub, 1) := by decide +kernel
theorem dX9_passes_18 : decode cX9_passes 18 = .ok (.invokestatic 189, 3) := by decide +kernel
theorem dX9_passes_21 : decode cX9_passes 21 = .ok (.ifCond .eq 28, 3) := by decide +kernel
theorem dX9_passes_24 : decode cX9_passes 24 = .ok (.aload_n 0, 1) := by decide +kernel
theorem dX9_passes_25 : decode cX9_passes 25 = .ok (.getfield 25, 3) := by decide +kernel
theorem dX9_passes_28 : decode cX9_passes 28 = .ok (.iload_n 2, 1) := by decide +kernel
theorem dX9_passes_29 : decode cX9_passes 29 = .ok (.iaload, 1) := by decide +kernel
theorem dX9_passes_30 : decode cX9_passes 30 = .ok (.ifCond .eq 13, 3) := by decide +kernel
theorem dX9_passes_33 : decode cX9_passes 33 = .ok (.aload_n 0, 1) := by decide +kernel
theorem dX9_passes_34 : decode cX9_passes 34 = .ok (.getfield 25, 3) := by decide +kernel
theorem dX9_passes_37 : decode cX9_passes 37 = .ok (.iload_n 2, 1) := by decide +kernel
theorem dX9_passes_38 : decode cX9_passes 38 = .ok (.iaload, 1) := by decide +kernel
theorem dX9_passes_39 : decode cX9_passes 39 = .ok (.iconst 4, 1) := by decide +kernel
theorem dX9_passes_40 : decode cX9_passes 40 = .ok (.if_icmp .ne 9, 3) := by decide +kernel
theorem dX9_passes_43 : decode cX9_passes 43 = .ok (.iconst 1, 1) := by decide +kernel
theorem dX9_passes_44 : decode cX9_passes 44 = .ok (.iload_n 2, 1) := by decide +kernel
theorem dX9_passes_45 : decode cX9_passes 45 = .ok (.ishl, 1) := by decide +kernel
theorem dX9_passes_46 : decode cX9_passes 46 = .ok (.goto 4, 3) := by decide +kernel
theorem dX9_passes_49 : decode cX9_passes 49 = .ok (.iconst 0, 1) := by decide +kernel
theorem dX9_passes_50 : decode cX9_passes 50 = .ok (.ior, 1) := by decide +kernel
theorem dX9_passes_51 : decode cX9_passes 51 = .ok (.istore_n 1, 1) := by decide +kernel
theorem dX9_passes_52 : decode cX9_passes 52 = .ok (.iinc 2 1, 3) := by decide +kernel
theorem dX9_passes_55 : decode cX9_passes 55 = .ok (.goto (-51), 3) := by decide +kernel
theorem dX9_passes_58 : decode cX9_passes 58 = .ok (.iconst 0, 1) := by decide +kernel
theorem dX9_passes_59 : decode cX9_passes 59 = .ok (.istore_n 2, 1) := by decide +kernel
theorem dX9_passes_60 : decode cX9_passes 60 = .ok (.iload_n 2, 1) := by decide +kernel
theorem dX9_passes_61 : decode cX9_passes 61 = .ok (.aload_n 0, 1) := by decide +kernel
theorem dX9_passes_62 : decode cX9_passes 62 = .ok (.getfield 69, 3) := by decide +kernel
theorem dX9_passes_65 : decode cX9_passes 65 = .ok (.if_icmp .ge 28, 3) := by decide +kernel
theorem dX9_passes_68 : decode cX9_passes 68 = .ok (.aload_n 0, 1) := by decide +kernel
theorem dX9_passes_69 : decode cX9_passes 69 = .ok (.getfield 22, 3) := by decide +kernel
theorem dX9_passes_72 : decode cX9_passes 72 = .ok (.iload_n 2, 1) := by decide +kernel
theorem dX9_passes_73 : decode cX9_passes 73 = .ok (.dup2, 1) := by decide +kernel
theorem dX9_passes_74 : decode cX9_passes 74 = .ok (.iaload, 1) := by decide +kernel
theorem dX9_passes_75 : decode cX9_passes 75 = .ok (.aload_n 0, 1) := by decide +kernel
theorem dX9_passes_76 : decode cX9_passes 76 = .ok (.getfield 22, 3) := by decide +kernel
theorem dX9_passes_79 : decode cX9_passes 79 = .ok (.iload_n 2, 1) := by decide +kernel
theorem dX9_passes_80 : decode cX9_passes 80 = .ok (.iaload, 1) := by decide +kernel
theorem dX9_passes_81 : decode cX9_passes 81 = .ok (.iconst 1, 1) := by decide +kernel
theorem dX9_passes_82 : decode cX9_passes 82 = .ok (.ishl, 1) := by decide +kernel
theorem dX9_passes_83 : decode cX9_passes 83 = .ok (.iload_n 1, 1) := by decide +kernel
theorem dX9_passes_84 : decode cX9_passes 84 = .ok (.iand, 1) := by decide +kernel
theorem dX9_passes_85 : decode cX9_passes 85 = .ok (.ior, 1) := by decide +kernel
theorem dX9_passes_86 : decode cX9_passes 86 = .ok (.iastore, 1) := by decide +kernel
theorem dX9_passes_87 : decode cX9_passes 87 = .ok (.iinc 2 1, 3) := by decide +kernel
theorem dX9_passes_90 : decode cX9_passes 90 = .ok (.goto (-30), 3) := by decide +kernel
theorem dX9_passes_93 : decode cX9_passes 93 = .ok (.aload_n 0, 1) := by decide +kernel
theorem dX9_passes_94 : decode cX9_passes 94 = .ok (.dup, 1) := by decide +kernel
theorem dX9_passes_95 : decode cX9_passes 95 = .ok (.getfield 73, 3) := by decide +kernel
theorem dX9_passes_98 : decode cX9_passes 98 = .ok (.iconst 1, 1) := by decide +kernel
theorem dX9_passes_99 : decode cX9_passes 99 = .ok (.iadd, 1) := by decide +kernel
theorem dX9_passes_100 : decode cX9_passes 100 = .ok (.putfield 73, 3) := by decide +kernel
theorem dX9_passes_103 : decode cX9_passes 103 = .ok (.return_, 1) := by decide +kernel
theorem dX9_goesOn_0 : decode cX9_goesOn 0 = .ok (.iconst 0, 1) := by decide +kernel
theorem dX9_goesOn_1 : decode cX9_goesOn 1 = .ok (.istore_n 2, 1) := by decide +kernel
theorem dX9_goesOn_2 : decode cX9_goesOn 2 = .ok (.iload_n 2, 1) := by decide +kernel
theorem dX9_goesOn_3 : decode cX9_goesOn 3 = .ok (.iload_n 1, 1) := by decide +kernel
theorem dX9_goesOn_4 : decode cX9_goesOn 4 = .ok (.if_icmp .ge 13, 3) := by decide +kernel
theorem dX9_goesOn_7 : decode cX9_goesOn 7 = .ok (.aload_n 0, 1) := by decide +kernel
theorem dX9_goesOn_8 : decode cX9_goesOn 8 = .ok (.invokevirtual 204, 3) := by decide +kernel
theorem dX9_goesOn_11 : decode cX9_goesOn 11 = .ok (.iinc 2 1, 3) := by decide +kernel
theorem dX9_goesOn_14 : decode cX9_goesOn 14 = .ok (.goto (-12), 3) := by decide +kernel
theorem dX9_goesOn_17 : decode cX9_goesOn 17 = .ok (.return_, 1) := by decide +kernel
theorem dX9_lays_0 : decode cX9_lays 0 = .ok (.aload_n 1, 1) := by decide +kernel
theorem dX9_lays_1 : decode cX9_lays 1 = .ok (.iload_n 2, 1) := by decide +kernel
theorem dX9_lays_2 : decode cX9_lays 2 = .ok (.aload_n 0, 1) := by decide +kernel
theorem dX9_lays_3 : decode cX9_lays 3 = .ok (.getfield 73, 3) := by decide +kernel
theorem dX9_lays_6 : decode cX9_lays 6 = .ok (.iastore, 1) := by decide +kernel
theorem dX9_lays_7 : decode cX9_lays 7 = .ok (.aload_n 1, 1) := by decide +kernel
theorem dX9_lays_8 : decode cX9_lays 8 = .ok (.iload_n 2, 1) := by decide +kernel
theorem dX9_lays_9 : decode cX9_lays 9 = .ok (.iconst 1, 1) := by decide +kernel
theorem dX9_lays_10 : decode cX9_lays 10 = .ok (.iadd, 1) := by decide +kernel
theorem dX9_lays_11 : decode cX9_lays 11 = .ok (.aload_n 0, 1) := by decide +kernel
theorem dX9_lays_12 : decode cX9_lays 12 = .ok (.getfield 76, 3) := by decide +kernel
theorem dX9_lays_15 : decode cX9_lays 15 = .ok (.iastore, 1) := by decide +kernel
theorem dX9_lays_16 : decode cX9_lays 16 = .ok (.iconst 0, 1) := by decide +kernel
theorem dX9_lays_17 : decode cX9_lays 17 = .ok (.istore_n 3, 1) := by decide +kernel
theorem dX9_lays_18 : decode cX9_lays 18 = .ok (.iload_n 3, 1) := by decide +kernel
theorem dX9_lays_19 : decode cX9_lays 19 = .ok (.bipush 6, 2) := by decide +kernel
theorem dX9_lays_21 : decode cX9_lays 21 = .ok (.if_icmp .ge 36, 3) := by decide +kernel
theorem dX9_lays_24 : decode cX9_lays 24 = .ok (.aload_n 1, 1) := by decide +kernel
theorem dX9_lays_25 : decode cX9_lays 25 = .ok (.iload_n 2, 1) := by decide +kernel
theorem dX9_lays_26 : decode cX9_lays 26 = .ok (.iconst 2, 1) := by decide +kernel
theorem dX9_lays_27 : decode cX9_lays 27 = .ok (.iadd, 1) := by decide +kernel
theorem dX9_lays_28 : decode cX9_lays 28 = .ok (.iload_n 3, 1) := by decide +kernel
theorem dX9_lays_29 : decode cX9_lays 29 = .ok (.iadd, 1) := by decide +kernel
theorem dX9_lays_30 : decode cX9_lays 30 = .ok (.aload_n 0, 1) := by decide +kernel
theorem dX9_lays_31 : decode cX9_lays 31 = .ok (.getfield 22, 3) := by decide +kernel
theorem dX9_lays_34 : decode cX9_lays 34 = .ok (.iload_n 3, 1) := by decide +kernel
theorem dX9_lays_35 : decode cX9_lays 35 = .ok (.iaload, 1) := by decide +kernel
theorem dX9_lays_36 : decode cX9_lays 36 = .ok (.iastore, 1) := by decide +kernel
theorem dX9_lays_37 : decode cX9_lays 37 = .ok (.aload_n 1, 1) := by decide +kernel
theorem dX9_lays_38 : decode cX9_lays 38 = .ok (.iload_n 2, 1) := by decide +kernel
theorem dX9_lays_39 : decode cX9_lays 39 = .ok (.bipush 8, 2) := by decide +kernel
theorem dX9_lays_41 : decode cX9_lays 41 = .ok (.iadd, 1) := by decide +kernel
theorem dX9_lays_42 : decode cX9_lays 42 = .ok (.iload_n 3, 1) := by decide +kernel
theorem dX9_lays_43 : decode cX9_lays 43 = .ok (.iadd, 1) := by decide +kernel
theorem dX9_lays_44 : decode cX9_lays 44 = .ok (.aload_n 0, 1) := by decide +kernel
theorem dX9_lays_45 : decode cX9_lays 45 = .ok (.getfield 19, 3) := by decide +kernel
theorem dX9_lays_48 : decode cX9_lays 48 = .ok (.iload_n 3, 1) := by decide +kernel
theorem dX9_lays_49 : decode cX9_lays 49 = .ok (.iaload, 1) := by decide +kernel
theorem dX9_lays_50 : decode cX9_lays 50 = .ok (.iastore, 1) := by decide +kernel
theorem dX9_lays_51 : decode cX9_lays 51 = .ok (.iinc 3 1, 3) := by decide +kernel
theorem dX9_lays_54 : decode cX9_lays 54 = .ok (.goto (-36), 3) := by decide +kernel
theorem dX9_lays_57 : decode cX9_lays 57 = .ok (.iconst 0, 1) := by decide +kernel
theorem dX9_lays_58 : decode cX9_lays 58 = .ok (.istore_n 3, 1) := by decide +kernel
theorem dX9_lays_59 : decode cX9_lays 59 = .ok (.iload_n 3, 1) := by decide +kernel
theorem dX9_lays_60 : decode cX9_lays 60 = .ok (.bipush 8, 2) := by decide +kernel
theorem dX9_lays_62 : decode cX9_lays 62 = .ok (.if_icmp .ge 23, 3) := by decide +kernel
theorem dX9_lays_65 : decode cX9_lays 65 = .ok (.aload_n 1, 1) := by decide +kernel
theorem dX9_lays_66 : decode cX9_lays 66 = .ok (.iload_n 2, 1) := by decide +kernel
theorem dX9_lays_67 : decode cX9_lays 67 = .ok (.bipush 14, 2) := by decide +kernel
theorem dX9_lays_69 : decode cX9_lays 69 = .ok (.iadd, 1) := by decide +kernel
theorem dX9_lays_70 : decode cX9_lays 70 = .ok (.iload_n 3, 1) := by decide +kernel
theorem dX9_lays_71 : decode cX9_lays 71 = .ok (.iadd, 1) := by decide +kernel
theorem dX9_lays_72 : decode cX9_lays 72 = .ok (.aload_n 0, 1) := by decide +kernel
theorem dX9_lays_73 : decode cX9_lays 73 = .ok (.getfield 25, 3) := by decide +kernel
theorem dX9_lays_76 : decode cX9_lays 76 = .ok (.iload_n 3, 1) := by decide +kernel
theorem dX9_lays_77 : decode cX9_lays 77 = .ok (.iaload, 1) := by decide +kernel
theorem dX9_lays_78 : decode cX9_lays 78 = .ok (.iastore, 1) := by decide +kernel
theorem dX9_lays_79 : decode cX9_lays 79 = .ok (.iinc 3 1, 3) := by decide +kernel
theorem dX9_lays_82 : decode cX9_lays 82 = .ok (.goto (-23), 3) := by decide +kernel
theorem dX9_lays_85 : decode cX9_lays 85 = .ok (.return_, 1) := by decide +kernel
theorem dX9_takes_0 : decode cX9_takes 0 = .ok (.aload_n 0, 1) := by decide +kernel
theorem dX9_takes_1 : decode cX9_takes 1 = .ok (.aload_n 1, 1) := by decide +kernel
theorem dX9_takes_2 : decode cX9_takes 2 = .ok (.iload_n 2, 1) := by decide +kernel
theorem dX9_takes_3 : decode cX9_takes 3 = .ok (.iaload, 1) := by decide +kernel
theorem dX9_takes_4 : decode cX9_takes 4 = .ok (.putfield 73, 3) := by decide +kernel
theorem dX9_takes_7 : decode cX9_takes 7 = .ok (.aload_n 0, 1) := by decide +kernel
theorem dX9_takes_8 : decode cX9_takes 8 = .ok (.aload_n 1, 1) := by decide +kernel
theorem dX9_takes_9 : decode cX9_takes 9 = .ok (.iload_n 2, 1) := by decide +kernel
theorem dX9_takes_10 : decode cX9_takes 10 = .ok (.iconst 1, 1) := by decide +kernel
theorem dX9_takes_11 : decode cX9_takes 11 = .ok (.iadd, 1) := by decide +kernel
theorem dX9_takes_12 : decode cX9_takes 12 = .ok (.iaload, 1) := by decide +kernel
theorem dX9_takes_13 : decode cX9_takes 13 = .ok (.putfield 76, 3) := by decide +kernel
theorem dX9_takes_16 : decode cX9_takes 16 = .ok (.iconst 0, 1) := by decide +kernel
theorem dX9_takes_17 : decode cX9_takes 17 = .ok (.istore_n 3, 1) := by decide +kernel
theorem dX9_takes_18 : decode cX9_takes 18 = .ok (.iload_n 3, 1) := by decide +kernel
theorem dX9_takes_19 : decode cX9_takes 19 = .ok (.bipush 6, 2) := by decide +kernel
theorem dX9_takes_21 : decode cX9_takes 21 = .ok (.if_icmp .ge 36, 3) := by decide +kernel
theorem dX9_takes_24 : decode cX9_takes 24 = .ok (.aload_n 0, 1) := by decide +kernel
theorem dX9_takes_25 : decode cX9_takes 25 = .ok (.getfield 22, 3) := by decide +kernel
theorem dX9_takes_28 : decode cX9_takes 28 = .ok (.iload_n 3, 1) := by decide +kernel
theorem dX9_takes_29 : decode cX9_takes 29 = .ok (.aload_n 1, 1) := by decide +kernel
theorem dX9_takes_30 : decode cX9_takes 30 = .ok (.iload_n 2, 1) := by decide +kernel
theorem dX9_takes_31 : decode cX9_takes 31 = .ok (.iconst 2, 1) := by decide +kernel
theorem dX9_takes_32 : decode cX9_takes 32 = .ok (.iadd, 1) := by decide +kernel
theorem dX9_takes_33 : decode cX9_takes 33 = .ok (.iload_n 3, 1) := by decide +kernel
theorem dX9_takes_34 : decode cX9_takes 34 = .ok (.iadd, 1) := by decide +kernel
theorem dX9_takes_35 : decode cX9_takes 35 = .ok (.iaload, 1) := by decide +kernel
theorem dX9_takes_36 : decode cX9_takes 36 = .ok (.iastore, 1) := by decide +kernel
theorem dX9_takes_37 : decode cX9_takes 37 = .ok (.aload_n 0, 1) := by decide +kernel
theorem dX9_takes_38 : decode cX9_takes 38 = .ok (.getfield 19, 3) := by decide +kernel
theorem dX9_takes_41 : decode cX9_takes 41 = .ok (.iload_n 3, 1) := by decide +kernel
theorem dX9_takes_42 : decode cX9_takes 42 = .ok (.aload_n 1, 1) := by decide +kernel
theorem dX9_takes_43 : decode cX9_takes 43 = .ok (.iload_n 2, 1) := by decide +kernel
theorem dX9_takes_44 : decode cX9_takes 44 = .ok (.bipush 8, 2) := by decide +kernel
theorem dX9_takes_46 : decode cX9_takes 46 = .ok (.iadd, 1) := by decide +kernel
theorem dX9_takes_47 : decode cX9_takes 47 = .ok (.iload_n 3, 1) := by decide +kernel
theorem dX9_takes_48 : decode cX9_takes 48 = .ok (.iadd, 1) := by decide +kernel
theorem dX9_takes_49 : decode cX9_takes 49 = .ok (.iaload, 1) := by decide +kernel
theorem dX9_takes_50 : decode cX9_takes 50 = .ok (.iastore, 1) := by decide +kernel
theorem dX9_takes_51 : decode cX9_takes 51 = .ok (.iinc 3 1, 3) := by decide +kernel
theorem dX9_takes_54 : decode cX9_takes 54 = .ok (.goto (-36), 3) := by decide +kernel
theorem dX9_takes_57 : decode cX9_takes 57 = .ok (.iconst 0, 1) := by decide +kernel
theorem dX9_takes_58 : decode cX9_takes 58 = .ok (.istore_n 3, 1) := by decide +kernel
theorem dX9_takes_59 : decode cX9_takes 59 = .ok (.iload_n 3, 1) := by decide +kernel
theorem dX9_takes_60 : decode cX9_takes 60 = .ok (.bipush 8, 2) := by decide +kernel
theorem dX9_takes_62 : decode cX9_takes 62 = .ok (.if_icmp .ge 23, 3) := by decide +kernel
theorem dX9_takes_65 : decode cX9_takes 65 = .ok (.aload_n 0, 1) := by decide +kernel
theorem dX9_takes_66 : decode cX9_takes 66 = .ok (.getfield 25, 3) := by decide +kernel
theorem dX9_takes_69 : decode cX9_takes 69 = .ok (.iload_n 3, 1) := by decide +kernel
theorem dX9_takes_70 : decode cX9_takes 70 = .ok (.aload_n 1, 1) := by decide +kernel
theorem dX9_takes_71 : decode cX9_takes 71 = .ok (.iload_n 2, 1) := by decide +kernel
theorem dX9_takes_72 : decode cX9_takes 72 = .ok (.bipush 14, 2) := by decide +kernel
theorem dX9_takes_74 : decode cX9_takes 74 = .ok (.iadd, 1) := by decide +kernel
theorem dX9_takes_75 : decode cX9_takes 75 = .ok (.iload_n 3, 1) := by decide +kernel
theorem dX9_takes_76 : decode cX9_takes 76 = .ok (.iadd, 1) := by decide +kernel
theorem dX9_takes_77 : decode cX9_takes 77 = .ok (.iaload, 1) := by decide +kernel
theorem dX9_takes_78 : decode cX9_takes 78 = .ok (.iastore, 1) := by decide +kernel
theorem dX9_takes_79 : decode cX9_takes 79 = .ok (.iinc 3 1, 3) := by decide +kernel
theorem dX9_takes_82 : decode cX9_takes 82 = .ok (.goto (-23), 3) := by decide +kernel
theorem dX9_takes_85 : decode cX9_takes 85 = .ok (.return_, 1) := by decide +kernel
theorem dX9_notes_0 : decode cX9_notes 0 = .ok (.aload_n 0, 1) := by decide +kernel
theorem dX9_notes_1 : decode cX9_notes 1 = .ok (.getfield 88, 3) := by decide +kernel
theorem dX9_notes_4 : decode cX9_notes 4 = .ok (.bipush 8, 2) := by decide +kernel
theorem dX9_notes_6 : decode cX9_notes 6 = .ok (.if_icmp .ne 43, 3) := by decide +kernel
theorem dX9_notes_9 : decode cX9_notes 9 = .ok (.iconst 0, 1) := by decide +kernel
theorem dX9_notes_10 : decode cX9_notes 10 = .ok (.istore_n 1, 1) := by decide +kernel
theorem dX9_notes_11 : decode cX9_notes 11 = .ok (.iload_n 1, 1) := by decide +kernel
theorem dX9_notes_12 : decode cX9_notes 12 = .ok (.sipush 154, 3) := by decide +kernel
theorem dX9_notes_15 : decode cX9_notes 15 = .ok (.if_icmp .ge 24, 3) := by decide +kernel
theorem dX9_notes_18 : decode cX9_notes 18 = .ok (.aload_n 0, 1) := by decide +kernel
theorem dX9_notes_19 : decode cX9_notes 19 = .ok (.getfield 43, 3) := by decide +kernel
theorem dX9_notes_22 : decode cX9_notes 22 = .ok (.iload_n 1, 1) := by decide +kernel
theorem dX9_notes_23 : decode cX9_notes 23 = .ok (.aload_n 0, 1) := by decide +kernel
theorem dX9_notes_24 : decode cX9_notes 24 = .ok (.getfield 43, 3) := by decide +kernel
theorem dX9_notes_27 : decode cX9_notes 27 = .ok (.iload_n 1, 1) := by decide +kernel
theorem dX9_notes_28 : decode cX9_notes 28 = .ok (.bipush 22, 2) := by decide +kernel
theorem dX9_notes_30 : decode cX9_notes 30 = .ok (.iadd, 1) := by decide +kernel
theorem dX9_notes_31 : decode cX9_notes 31 = .ok (.iaload, 1) := by decide +kernel
theorem dX9_notes_32 : decode cX9_notes 32 = .ok (.iastore, 1) := by decide +kernel
theorem dX9_notes_33 : decode cX9_notes 33 = .ok (.iinc 1 1, 3) := by decide +kernel
theorem dX9_notes_36 : decode cX9_notes 36 = .ok (.goto (-25), 3) := by decide +kernel
theorem dX9_notes_39 : decode cX9_notes 39 = .ok (.aload_n 0, 1) := by decide +kernel
theorem dX9_notes_40 : decode cX9_notes 40 = .ok (.dup, 1) := by decide +kernel
theorem dX9_notes_41 : decode cX9_notes 41 = .ok (.getfield 88, 3) := by decide +kernel
theorem dX9_notes_44 : decode cX9_notes 44 = .ok (.iconst 1, 1) := by decide +kernel
theorem dX9_notes_45 : decode cX9_notes 45 = .ok (.isub, 1) := by decide +kernel
theorem dX9_notes_46 : decode cX9_notes 46 = .ok (.putfield 88, 3) := by decide +kernel
theorem dX9_notes_49 : decode cX9_notes 49 = .ok (.aload_n 0, 1) := by decide +kernel
theorem dX9_notes_50 : decode cX9_notes 50 = .ok (.aload_n 0, 1) := by decide +kernel
theorem dX9_notes_51 : decode cX9_notes 51 = .ok (.getfield 43, 3) := by decide +kernel
theorem dX9_notes_54 : decode cX9_notes 54 = .ok (.bipush 22, 2) := by decide +kernel
theorem dX9_notes_56 : decode cX9_notes 56 = .ok (.aload_n 0, 1) := by decide +kernel
theorem dX9_notes_57 : decode cX9_notes 57 = .ok (.getfield 88, 3) := by decide +kernel
theorem dX9_notes_60 : decode cX9_notes 60 = .ok (.imul, 1) := by decide +kernel
theorem dX9_notes_61 : decode cX9_notes 61 = .ok (.invokevirtual 207, 3) := by decide +kernel
theorem dX9_notes_64 : decode cX9_notes 64 = .ok (.aload_n 0, 1) := by decide +kernel
theorem dX9_notes_65 : decode cX9_notes 65 = .ok (.dup, 1) := by decide +kernel
theorem dX9_notes_66 : decode cX9_notes 66 = .ok (.getfield 88, 3) := by decide +kernel
theorem dX9_notes_69 : decode cX9_notes 69 = .ok (.iconst 1, 1) := by decide +kernel
theorem dX9_notes_70 : decode cX9_notes 70 = .ok (.iadd, 1) := by decide +kernel
theorem dX9_notes_71 : decode cX9_notes 71 = .ok (.putfield 88, 3) := by decide +kernel
theorem dX9_notes_74 : decode cX9_notes 74 = .ok (.return_, 1) := by decide +kernel
theorem dX9_learns_0 : decode cX9_learns 0 = .ok (.aload_n 0, 1) := by decide +kernel
theorem dX9_learns_1 : decode cX9_learns 1 = .ok (.getfield 22, 3) := by decide +kernel
theorem dX9_learns_4 : decode cX9_learns 4 = .ok (.iload_n 1, 1) := by decide +kernel
theorem dX9_learns_5 : decode cX9_learns 5 = .ok (.dup2, 1) := by decide +kernel
theorem dX9_learns_6 : decode cX9_learns 6 = .ok (.iaload, 1) := by decide +kernel
theorem dX9_learns_7 : decode cX9_learns 7 = .ok (.aload_n 0, 1) := by decide +kernel
theorem dX9_learns_8 : decode cX9_learns 8 = .ok (.iload_n 1, 1) := by decide +kernel
theorem dX9_learns_9 : decode cX9_learns 9 = .ok (.iload_n 2, 1) := by decide +kernel
theorem dX9_learns_10 : decode cX9_learns 10 = .ok (.aload_n 0, 1) := by decide +kernel
theorem dX9_learns_11 : decode cX9_learns 11 = .ok (.invokevirtual 210, 3) := by decide +kernel
theorem dX9_learns_14 : decode cX9_learns 14 = .ok (.invokevirtual 213, 3) := by decide +kernel
theorem dX9_learns_17 : decode cX9_learns 17 = .ok (.ifCond .eq 9, 3) := by decide +kernel
theorem dX9_learns_20 : decode cX9_learns 20 = .ok (.iconst 1, 1) := by decide +kernel
theorem dX9_learns_21 : decode cX9_learns 21 = .ok (.iload_n 2, 1) := by decide +kernel
theorem dX9_learns_22 : decode cX9_learns 22 = .ok (.ishl, 1) := by decide +kernel
theorem dX9_learns_23 : decode cX9_learns 23 = .ok (.goto 4, 3) := by decide +kernel
theorem dX9_learns_26 : decode cX9_learns 26 = .ok (.iconst 0, 1) := by decide +kernel
theorem dX9_learns_27 : decode cX9_learns 27 = .ok (.ior, 1) := by decide +kernel
theorem dX9_learns_28 : decode cX9_learns 28 = .ok (.iastore, 1) := by decide +kernel
theorem dX9_learns_29 : decode cX9_learns 29 = .ok (.return_, 1) := by decide +kernel
theorem dX9_meets_0 : decode cX9_meets 0 = .ok (.aload_n 0, 1) := by decide +kernel
theorem dX9_meets_1 : decode cX9_meets 1 = .ok (.iload_n 1, 1) := by decide +kernel
theorem dX9_meets_2 : decode cX9_meets 2 = .ok (.invokevirtual 216, 3) := by decide +kernel
theorem dX9_meets_5 : decode cX9_meets 5 = .ok (.ifCond .eq 10, 3) := by decide +kernel
theorem dX9_meets_8 : decode cX9_meets 8 = .ok (.iload_n 2, 1) := by decide +kernel
theorem dX9_meets_9 : decode cX9_meets 9 = .ok (.invokestatic 219, 3) := by decide +kernel
theorem dX9_meets_12 : decode cX9_meets 12 = .ok (.ifCond .ne 8, 3) := by decide +kernel
theorem dX9_meets_15 : decode cX9_meets 15 = .ok (.aload_n 0, 1) := by decide +kernel
theorem dX9_meets_16 : decode cX9_meets 16 = .ok (.invokevirtual 95, 3) := by decide +kernel
theorem dX9_meets_19 : decode cX9_meets 19 = .ok (.ireturn, 1) := by decide +kernel
theorem dX9_meets_20 : decode cX9_meets 20 = .ok (.aload_n 0, 1) := by decide +kernel
theorem dX9_meets_21 : decode cX9_meets 21 = .ok (.getfield 22, 3) := by decide +kernel
theorem dX9_meets_24 : decode cX9_meets 24 = .ok (.iload_n 1, 1) := by decide +kernel
theorem dX9_meets_25 : decode cX9_meets 25 = .ok (.iaload, 1) := by decide +kernel
theorem dX9_meets_26 : decode cX9_meets 26 = .ok (.iload_n 2, 1) := by decide +kernel
theorem dX9_meets_27 : decode cX9_meets 27 = .ok (.invokestatic 189, 3) := by decide +kernel
theorem dX9_meets_30 : decode cX9_meets 30 = .ok (.ifCond .ne 13, 3) := by decide +kernel
theorem dX9_meets_33 : decode cX9_meets 33 = .ok (.aload_n 0, 1) := by decide +kernel
theorem dX9_meets_34 : decode cX9_meets 34 = .ok (.getfield 73, 3) := by decide +kernel
theorem dX9_meets_37 : decode cX9_meets 37 = .ok (.sipush 9999, 3) := by decide +kernel
theorem dX9_meets_40 : decode cX9_meets 40 = .ok (.if_icmp .ne 8, 3) := by decide +kernel
theorem dX9_meets_43 : decode cX9_meets 43 = .ok (.aload_n 0, 1) := by decide +kernel
theorem dX9_meets_44 : decode cX9_meets 44 = .ok (.invokevirtual 222, 3) := by decide +kernel
theorem dX9_meets_47 : decode cX9_meets 47 = .ok (.ireturn, 1) := by decide +kernel
theorem dX9_meets_48 : decode cX9_meets 48 = .ok (.aload_n 0, 1) := by decide +kernel
theorem dX9_meets_49 : decode cX9_meets 49 = .ok (.invokevirtual 225, 3) := by decide +kernel
theorem dX9_meets_52 : decode cX9_meets 52 = .ok (.aload_n 0, 1) := by decide +kernel
theorem dX9_meets_53 : decode cX9_meets 53 = .ok (.iload_n 1, 1) := by decide +kernel
theorem dX9_meets_54 : decode cX9_meets 54 = .ok (.iload_n 2, 1) := by decide +kernel
theorem dX9_meets_55 : decode cX9_meets 55 = .ok (.invokevirtual 228, 3) := by decide +kernel
theorem dX9_meets_58 : decode cX9_meets 58 = .ok (.aload_n 0, 1) := by decide +kernel
theorem dX9_meets_59 : decode cX9_meets 59 = .ok (.invokevirtual 204, 3) := by decide +kernel
theorem dX9_meets_62 : decode cX9_meets 62 = .ok (.aload_n 0, 1) := by decide +kernel
theorem dX9_meets_63 : decode cX9_meets 63 = .ok (.getfield 22, 3) := by decide +kernel
theorem dX9_meets_66 : decode cX9_meets 66 = .ok (.iload_n 1, 1) := by decide +kernel
theorem dX9_meets_67 : decode cX9_meets 67 = .ok (.iaload, 1) := by decide +kernel
theorem dX9_meets_68 : decode cX9_meets 68 = .ok (.iload_n 2, 1) := by decide +kernel
theorem dX9_meets_69 : decode cX9_meets 69 = .ok (.ishr, 1) := by decide +kernel
theorem dX9_meets_70 : decode cX9_meets 70 = .ok (.iconst 1, 1) := by decide +kernel
theorem dX9_meets_71 : decode cX9_meets 71 = .ok (.iand, 1) := by decide +kernel
theorem dX9_meets_72 : decode cX9_meets 72 = .ok (.ireturn, 1) := by decide +kernel
theorem dX9_tenBad_0 : decode cX9_tenBad 0 = .ok (.aload_n 0, 1) := by decide +kernel
theorem dX9_tenBad_1 : decode cX9_tenBad 1 = .ok (.invokevirtual 95, 3) := by decide +kernel
theorem dX9_tenBad_4 : decode cX9_tenBad 4 = .ok (.pop, 1) := by decide +kernel
theorem dX9_tenBad_5 : decode cX9_tenBad 5 = .ok (.bipush (-10), 2) := by decide +kernel
theorem dX9_tenBad_7 : decode cX9_tenBad 7 = .ok (.ireturn, 1) := by decide +kernel
theorem dX9_goes_0 : decode cX9_goes 0 = .ok (.aload_n 0, 1) := by decide +kernel
theorem dX9_goes_1 : decode cX9_goes 1 = .ok (.iload_n 1, 1) := by decide +kernel
theorem dX9_goes_2 : decode cX9_goes 2 = .ok (.invokevirtual 216, 3) := by decide +kernel
theorem dX9_goes_5 : decode cX9_goes 5 = .ok (.ifCond .eq 12, 3) := by decide +kernel
theorem dX9_goes_8 : decode cX9_goes 8 = .ok (.iload_n 2, 1) := by decide +kernel
theorem dX9_goes_9 : decode cX9_goes 9 = .ok (.iconst 0, 1) := by decide +kernel
theorem dX9_goes_10 : decode cX9_goes 10 = .ok (.iconst 1, 1) := by decide +kernel
theorem dX9_goes_11 : decode cX9_goes 11 = .ok (.invokestatic 91, 3) := by decide +kernel
theorem dX9_goes_14 : decode cX9_goes 14 = .ok (.ifCond .ne 8, 3) := by decide +kernel
theorem dX9_goes_17 : decode cX9_goes 17 = .ok (.aload_n 0, 1) := by decide +kernel
theorem dX9_goes_18 : decode cX9_goes 18 = .ok (.invokevirtual 232, 3) := by decide +kernel
theorem dX9_goes_21 : decode cX9_goes 21 = .ok (.ireturn, 1) := by decide +kernel
theorem dX9_goes_22 : decode cX9_goes 22 = .ok (.aload_n 0, 1) := by decide +kernel
theorem dX9_goes_23 : decode cX9_goes 23 = .ok (.getfield 19, 3) := by decide +kernel
theorem dX9_goes_26 : decode cX9_goes 26 = .ok (.iload_n 1, 1) := by decide +kernel
theorem dX9_goes_27 : decode cX9_goes 27 = .ok (.iaload, 1) := by decide +kernel
theorem dX9_goes_28 : decode cX9_goes 28 = .ok (.istore_n 3, 1) := by decide +kernel
theorem dX9_goes_29 : decode cX9_goes 29 = .ok (.iload_n 2, 1) := by decide +kernel
theorem dX9_goes_30 : decode cX9_goes 30 = .ok (.iconst 1, 1) := by decide +kernel
theorem dX9_goes_31 : decode cX9_goes 31 = .ok (.if_icmp .ne 9, 3) := by decide +kernel
theorem dX9_goes_34 : decode cX9_goes 34 = .ok (.iload_n 3, 1) := by decide +kernel
theorem dX9_goes_35 : decode cX9_goes 35 = .ok (.bipush 8, 2) := by decide +kernel
theorem dX9_goes_37 : decode cX9_goes 37 = .ok (.if_icmp .eq 22, 3) := by decide +kernel
theorem dX9_goes_40 : decode cX9_goes 40 = .ok (.iload_n 2, 1) := by decide +kernel
theorem dX9_goes_41 : decode cX9_goes 41 = .ok (.ifCond .ne 8, 3) := by decide +kernel
theorem dX9_goes_44 : decode cX9_goes 44 = .ok (.iload_n 3, 1) := by decide +kernel
theorem dX9_goes_45 : decode cX9_goes 45 = .ok (.iconst (-1), 1) := by decide +kernel
theorem dX9_goes_46 : decode cX9_goes 46 = .ok (.if_icmp .eq 13, 3) := by decide +kernel
theorem dX9_goes_49 : decode cX9_goes 49 = .ok (.aload_n 0, 1) := by decide +kernel
theorem dX9_goes_50 : decode cX9_goes 50 = .ok (.getfield 73, 3) := by decide +kernel
theorem dX9_goes_53 : decode cX9_goes 53 = .ok (.sipush 9999, 3) := by decide +kernel
theorem dX9_goes_56 : decode cX9_goes 56 = .ok (.if_icmp .ne 8, 3) := by decide +kernel
theorem dX9_goes_59 : decode cX9_goes 59 = .ok (.aload_n 0, 1) := by decide +kernel
theorem dX9_goes_60 : decode cX9_goes 60 = .ok (.invokevirtual 222, 3) := by decide +kernel
theorem dX9_goes_63 : decode cX9_goes 63 = .ok (.ireturn, 1) := by decide +kernel
theorem dX9_goes_64 : decode cX9_goes 64 = .ok (.aload_n 0, 1) := by decide +kernel
theorem dX9_goes_65 : decode cX9_goes 65 = .ok (.invokevirtual 225, 3) := by decide +kernel
theorem dX9_goes_68 : decode cX9_goes 68 = .ok (.iload_n 2, 1) := by decide +kernel
theorem dX9_goes_69 : decode cX9_goes 69 = .ok (.ifCond .eq 24, 3) := by decide +kernel
theorem dX9_goes_72 : decode cX9_goes 72 = .ok (.iload_n 3, 1) := by decide +kernel
theorem dX9_goes_73 : decode cX9_goes 73 = .ok (.bipush 7, 2) := by decide +kernel
theorem dX9_goes_75 : decode cX9_goes 75 = .ok (.if_icmp .eq 18, 3) := by decide +kernel
theorem dX9_goes_78 : decode cX9_goes 78 = .ok (.aload_n 0, 1) := by decide +kernel
theorem dX9_goes_79 : decode cX9_goes 79 = .ok (.getfield 22, 3) := by decide +kernel
theorem dX9_goes_82 : decode cX9_goes 82 = .ok (.iload_n 1, 1) := by decide +kernel
theorem dX9_goes_83 : decode cX9_goes 83 = .ok (.iaload, 1) := by decide +kernel
theorem dX9_goes_84 : decode cX9_goes 84 = .ok (.iload_n 3, 1) := by decide +kernel
theorem dX9_goes_85 : decode cX9_goes 85 = .ok (.iconst 1, 1) := by decide +kernel
theorem dX9_goes_86 : decode cX9_goes 86 = .ok (.iadd, 1) := by decide +kernel
theorem dX9_goes_87 : decode cX9_goes 87 = .ok (.invokestatic 189, 3) := by decide +kernel
theorem dX9_goes_90 : decode cX9_goes 90 = .ok (.ifCond .eq 7, 3) := by decide +kernel
theorem dX9_goes_93 : decode cX9_goes 93 = .ok (.iconst 1, 1) := by decide +kernel
theorem dX9_goes_94 : decode cX9_goes 94 = .ok (.goto 4, 3) := by decide +kernel
theorem dX9_goes_97 : decode cX9_goes 97 = .ok (.iconst 0, 1) := by decide +kernel
theorem dX9_goes_98 : decode cX9_goes 98 = .ok (.istore 4, 2) := by decide +kernel
theorem dX9_goes_100 : decode cX9_goes 100 = .ok (.aload_n 0, 1) := by decide +kernel
theorem dX9_goes_101 : decode cX9_goes 101 = .ok (.getfield 19, 3) := by decide +kernel
theorem dX9_goes_104 : decode cX9_goes 104 = .ok (.iload_n 1, 1) := by decide +kernel
theorem dX9_goes_105 : decode cX9_goes 105 = .ok (.iload 4, 2) := by decide +kernel
theorem dX9_goes_107 : decode cX9_goes 107 = .ok (.ifCond .eq 20, 3) := by decide +kernel
theorem dX9_goes_110 : decode cX9_goes 110 = .ok (.iload_n 2, 1) := by decide +kernel
theorem dX9_goes_111 : decode cX9_goes 111 = .ok (.iconst 1, 1) := by decide +kernel
theorem dX9_goes_112 : decode cX9_goes 112 = .ok (.if_icmp .ne 9, 3) := by decide +kernel
theorem dX9_goes_115 : decode cX9_goes 115 = .ok (.iload_n 3, 1) := by decide +kernel
theorem dX9_goes_116 : decode cX9_goes 116 = .ok (.iconst 1, 1) := by decide +kernel
theorem dX9_goes_117 : decode cX9_goes 117 = .ok (.iadd, 1) := by decide +kernel
theorem dX9_goes_118 : decode cX9_goes 118 = .ok (.goto 10, 3) := by decide +kernel
theorem dX9_goes_121 : decode cX9_goes 121 = .ok (.iload_n 3, 1) := by decide +kernel
theorem dX9_goes_122 : decode cX9_goes 122 = .ok (.iconst 1, 1) := by decide +kernel
theorem dX9_goes_123 : decode cX9_goes 123 = .ok (.isub, 1) := by decide +kernel
theorem dX9_goes_124 : decode cX9_goes 124 = .ok (.goto 4, 3) := by decide +kernel
theorem dX9_goes_127 : decode cX9_goes 127 = .ok (.iload_n 3, 1) := by decide +kernel
theorem dX9_goes_128 : decode cX9_goes 128 = .ok (.iastore, 1) := by decide +kernel
theorem dX9_goes_129 : decode cX9_goes 129 = .ok (.aload_n 0, 1) := by decide +kernel
theorem dX9_goes_130 : decode cX9_goes 130 = .ok (.invokevirtual 204, 3) := by decide +kernel
theorem dX9_goes_133 : decode cX9_goes 133 = .ok (.aload_n 0, 1) := by decide +kernel
theorem dX9_goes_134 : decode cX9_goes 134 = .ok (.getfield 19, 3) := by decide +kernel
theorem dX9_goes_137 : decode cX9_goes 137 = .ok (.iload_n 1, 1) := by decide +kernel
theorem dX9_goes_138 : decode cX9_goes 138 = .ok (.iaload, 1) := by decide +kernel
theorem dX9_goes_139 : decode cX9_goes 139 = .ok (.ireturn, 1) := by decide +kernel
theorem dX9_waits_0 : decode cX9_waits 0 = .ok (.iload_n 1, 1) := by decide +kernel
theorem dX9_waits_1 : decode cX9_waits 1 = .ok (.iconst 1, 1) := by decide +kernel
theorem dX9_waits_2 : decode cX9_waits 2 = .ok (.bipush 60, 2) := by decide +kernel
theorem dX9_waits_4 : decode cX9_waits 4 = .ok (.invokestatic 91, 3) := by decide +kernel
theorem dX9_waits_7 : decode cX9_waits 7 = .ok (.ifCond .ne 8, 3) := by decide +kernel
theorem dX9_waits_10 : decode cX9_waits 10 = .ok (.aload_n 0, 1) := by decide +kernel
theorem dX9_waits_11 : decode cX9_waits 11 = .ok (.invokevirtual 95, 3) := by decide +kernel
theorem dX9_waits_14 : decode cX9_waits 14 = .ok (.ireturn, 1) := by decide +kernel
theorem dX9_waits_15 : decode cX9_waits 15 = .ok (.aload_n 0, 1) := by decide +kernel
theorem dX9_waits_16 : decode cX9_waits 16 = .ok (.invokevirtual 225, 3) := by decide +kernel
theorem dX9_waits_19 : decode cX9_waits 19 = .ok (.iconst 0, 1) := by decide +kernel
theorem dX9_waits_20 : decode cX9_waits 20 = .ok (.istore_n 2, 1) := by decide +kernel
theorem dX9_waits_21 : decode cX9_waits 21 = .ok (.iload_n 2, 1) := by decide +kernel
theorem dX9_waits_22 : decode cX9_waits 22 = .ok (.iload_n 1, 1) := by decide +kernel
theorem dX9_waits_23 : decode cX9_waits 23 = .ok (.if_icmp .ge 23, 3) := by decide +kernel
theorem dX9_waits_26 : decode cX9_waits 26 = .ok (.aload_n 0, 1) := by decide +kernel
theorem dX9_waits_27 : decode cX9_waits 27 = .ok (.getfield 73, 3) := by decide +kernel
theorem dX9_waits_30 : decode cX9_waits 30 = .ok (.sipush 9999, 3) := by decide +kernel
theorem dX9_waits_33 : decode cX9_waits 33 = .ok (.if_icmp .ge 13, 3) := by decide +kernel
theorem dX9_waits_36 : decode cX9_waits 36 = .ok (.aload_n 0, 1) := by decide +kernel
theorem dX9_waits_37 : decode cX9_waits 37 = .ok (.invokevirtual 204, 3) := by decide +kernel
theorem dX9_waits_40 : decode cX9_waits 40 = .ok (.iinc 2 1, 3) := by decide +kernel
theorem dX9_waits_43 : decode cX9_waits 43 = .ok (.goto (-22), 3) := by decide +kernel
theorem dX9_waits_46 : decode cX9_waits 46 = .ok (.aload_n 0, 1) := by decide +kernel
theorem dX9_waits_47 : decode cX9_waits 47 = .ok (.invokevirtual 235, 3) := by decide +kernel
theorem dX9_waits_50 : decode cX9_waits 50 = .ok (.ireturn, 1) := by decide +kernel
theorem dX9_carpet_0 : decode cX9_carpet 0 = .ok (.iload_n 1, 1) := by decide +kernel
theorem dX9_carpet_1 : decode cX9_carpet 1 = .ok (.iconst 0, 1) := by decide +kernel
theorem dX9_carpet_2 : decode cX9_carpet 2 = .ok (.bipush 6, 2) := by decide +kernel
theorem dX9_carpet_4 : decode cX9_carpet 4 = .ok (.invokestatic 91, 3) := by decide +kernel
theorem dX9_carpet_7 : decode cX9_carpet 7 = .ok (.ifCond .eq 12, 3) := by decide +kernel
theorem dX9_carpet_10 : decode cX9_carpet 10 = .ok (.iload_n 2, 1) := by decide +kernel
theorem dX9_carpet_11 : decode cX9_carpet 11 = .ok (.iconst 0, 1) := by decide +kernel
theorem dX9_carpet_12 : decode cX9_carpet 12 = .ok (.iconst 1, 1) := by decide +kernel
theorem dX9_carpet_13 : decode cX9_carpet 13 = .ok (.invokestatic 91, 3) := by decide +kernel
theorem dX9_carpet_16 : decode cX9_carpet 16 = .ok (.ifCond .ne 8, 3) := by decide +kernel
theorem dX9_carpet_19 : decode cX9_carpet 19 = .ok (.aload_n 0, 1) := by decide +kernel
theorem dX9_carpet_20 : decode cX9_carpet 20 = .ok (.invokevirtual 95, 3) := by decide +kernel
theorem dX9_carpet_23 : decode cX9_carpet 23 = .ok (.ireturn, 1) := by decide +kernel
theorem dX9_carpet_24 : decode cX9_carpet 24 = .ok (.aload_n 0, 1) := by decide +kernel
theorem dX9_carpet_25 : decode cX9_carpet 25 = .ok (.getfield 76, 3) := by decide +kernel
theorem dX9_carpet_28 : decode cX9_carpet 28 = .ok (.iload_n 1, 1) := by decide +kernel
theorem dX9_carpet_29 : decode cX9_carpet 29 = .ok (.ishr, 1) := by decide +kernel
theorem dX9_carpet_30 : decode cX9_carpet 30 = .ok (.iconst 1, 1) := by decide +kernel
theorem dX9_carpet_31 : decode cX9_carpet 31 = .ok (.iand, 1) := by decide +kernel
theorem dX9_carpet_32 : decode cX9_carpet 32 = .ok (.iload_n 2, 1) := by decide +kernel
theorem dX9_carpet_33 : decode cX9_carpet 33 = .ok (.if_icmp .ne 8, 3) := by decide +kernel
theorem dX9_carpet_36 : decode cX9_carpet 36 = .ok (.aload_n 0, 1) := by decide +kernel
theorem dX9_carpet_37 : decode cX9_carpet 37 = .ok (.invokevirtual 222, 3) := by decide +kernel
theorem dX9_carpet_40 : decode cX9_carpet 40 = .ok (.ireturn, 1) := by decide +kernel
theorem dX9_carpet_41 : decode cX9_carpet 41 = .ok (.aload_n 0, 1) := by decide +kernel
theorem dX9_carpet_42 : decode cX9_carpet 42 = .ok (.invokevirtual 225, 3) := by decide +kernel
theorem dX9_carpet_45 : decode cX9_carpet 45 = .ok (.aload_n 0, 1) := by decide +kernel
theorem dX9_carpet_46 : decode cX9_carpet 46 = .ok (.dup, 1) := by decide +kernel
theorem dX9_carpet_47 : decode cX9_carpet 47 = .ok (.getfield 76, 3) := by decide +kernel
theorem dX9_carpet_50 : decode cX9_carpet 50 = .ok (.iconst 1, 1) := by decide +kernel
theorem dX9_carpet_51 : decode cX9_carpet 51 = .ok (.iload_n 1, 1) := by decide +kernel
theorem dX9_carpet_52 : decode cX9_carpet 52 = .ok (.ishl, 1) := by decide +kernel
theorem dX9_carpet_53 : decode cX9_carpet 53 = .ok (.ixor, 1) := by decide +kernel
theorem dX9_carpet_54 : decode cX9_carpet 54 = .ok (.putfield 76, 3) := by decide +kernel
theorem dX9_carpet_57 : decode cX9_carpet 57 = .ok (.iconst 1, 1) := by decide +kernel
theorem dX9_carpet_58 : decode cX9_carpet 58 = .ok (.iload_n 2, 1) := by decide +kernel
theorem dX9_carpet_59 : decode cX9_carpet 59 = .ok (.isub, 1) := by decide +kernel
theorem dX9_carpet_60 : decode cX9_carpet 60 = .ok (.ireturn, 1) := by decide +kernel
theorem dX9_whoKnows_0 : decode cX9_whoKnows 0 = .ok (.iconst 0, 1) := by decide +kernel
theorem dX9_whoKnows_1 : decode cX9_whoKnows 1 = .ok (.istore_n 2, 1) := by decide +kernel
theorem dX9_whoKnows_2 : decode cX9_whoKnows 2 = .ok (.iconst 0, 1) := by decide +kernel
theorem dX9_whoKnows_3 : decode cX9_whoKnows 3 = .ok (.istore_n 3, 1) := by decide +kernel
theorem dX9_whoKnows_4 : decode cX9_whoKnows 4 = .ok (.iload_n 3, 1) := by decide +kernel
theorem dX9_whoKnows_5 : decode cX9_whoKnows 5 = .ok (.aload_n 0, 1) := by decide +kernel
theorem dX9_whoKnows_6 : decode cX9_whoKnows 6 = .ok (.getfield 69, 3) := by decide +kernel
theorem dX9_whoKnows_9 : decode cX9_whoKnows 9 = .ok (.if_icmp .ge 32, 3) := by decide +kernel
theorem dX9_whoKnows_12 : decode cX9_whoKnows 12 = .ok (.iload_n 2, 1) := by decide +kernel
theorem dX9_whoKnows_13 : decode cX9_whoKnows 13 = .ok (.aload_n 0, 1) := by decide +kernel
theorem dX9_whoKnows_14 : decode cX9_whoKnows 14 = .ok (.getfield 22, 3) := by decide +kernel
theorem dX9_whoKnows_17 : decode cX9_whoKnows 17 = .ok (.iload_n 3, 1) := by decide +kernel
theorem dX9_whoKnows_18 : decode cX9_whoKnows 18 = .ok (.iaload, 1) := by decide +kernel
theorem dX9_whoKnows_19 : decode cX9_whoKnows 19 = .ok (.iload_n 1, 1) := by decide +kernel
theorem dX9_whoKnows_20 : decode cX9_whoKnows 20 = .ok (.invokestatic 189, 3) := by decide +kernel
theorem dX9_whoKnows_23 : decode cX9_whoKnows 23 = .ok (.ifCond .eq 9, 3) := by decide +kernel
theorem dX9_whoKnows_26 : decode cX9_whoKnows 26 = .ok (.iconst 1, 1) := by decide +kernel
theorem dX9_whoKnows_27 : decode cX9_whoKnows 27 = .ok (.iload_n 3, 1) := by decide +kernel
theorem dX9_whoKnows_28 : decode cX9_whoKnows 28 = .ok (.ishl, 1) := by decide +kernel
theorem dX9_whoKnows_29 : decode cX9_whoKnows 29 = .ok (.goto 4, 3) := by decide +kernel
theorem dX9_whoKnows_32 : decode cX9_whoKnows 32 = .ok (.iconst 0, 1) := by decide +kernel
theorem dX9_whoKnows_33 : decode cX9_whoKnows 33 = .ok (.ior, 1) := by decide +kernel
theorem dX9_whoKnows_34 : decode cX9_whoKnows 34 = .ok (.istore_n 2, 1) := by decide +kernel
theorem dX9_whoKnows_35 : decode cX9_whoKnows 35 = .ok (.iinc 3 1, 3) := by decide +kernel
theorem dX9_whoKnows_38 : decode cX9_whoKnows 38 = .ok (.goto (-34), 3) := by decide +kernel
theorem dX9_whoKnows_41 : decode cX9_whoKnows 41 = .ok (.iload_n 2, 1) := by decide +kernel
theorem dX9_whoKnows_42 : decode cX9_whoKnows 42 = .ok (.ireturn, 1) := by decide +kernel
theorem dX9_step_0 : decode cX9_step 0 = .ok (.iload_n 1, 1) := by decide +kernel
theorem dX9_step_1 : decode cX9_step 1 = .ok (.invokestatic 219, 3) := by decide +kernel
theorem dX9_step_4 : decode cX9_step 4 = .ok (.ifCond .eq 12, 3) := by decide +kernel
theorem dX9_step_7 : decode cX9_step 7 = .ok (.iload_n 2, 1) := by decide +kernel
theorem dX9_step_8 : decode cX9_step 8 = .ok (.iconst 0, 1) := by decide +kernel
theorem dX9_step_9 : decode cX9_step 9 = .ok (.iconst 5, 1) := by decide +kernel
theorem dX9_step_10 : decode cX9_step 10 = .ok (.invokestatic 91, 3) := by decide +kernel
theorem dX9_step_13 : decode cX9_step 13 = .ok (.ifCond .ne 8, 3) := by decide +kernel
theorem dX9_step_16 : decode cX9_step 16 = .ok (.aload_n 0, 1) := by decide +kernel
theorem dX9_step_17 : decode cX9_step 17 = .ok (.invokevirtual 95, 3) := by decide +kernel
theorem dX9_step_20 : decode cX9_step 20 = .ok (.ireturn, 1) := by decide +kernel
theorem dX9_step_21 : decode cX9_step 21 = .ok (.aload_n 0, 1) := by decide +kernel
theorem dX9_step_22 : decode cX9_step 22 = .ok (.invokevirtual 225, 3) := by decide +kernel
theorem dX9_step_25 : decode cX9_step 25 = .ok (.aload_n 0, 1) := by decide +kernel
theorem dX9_step_26 : decode cX9_step 26 = .ok (.iload_n 1, 1) := by decide +kernel
theorem dX9_step_27 : decode cX9_step 27 = .ok (.invokevirtual 238, 3) := by decide +kernel
theorem dX9_step_30 : decode cX9_step 30 = .ok (.invokestatic 201, 3) := by decide +kernel
theorem dX9_step_33 : decode cX9_step 33 = .ok (.istore_n 3, 1) := by decide +kernel
theorem dX9_step_34 : decode cX9_step 34 = .ok (.aload_n 0, 1) := by decide +kernel
theorem dX9_step_35 : decode cX9_step 35 = .ok (.getfield 25, 3) := by decide +kernel
theorem dX9_step_38 : decode cX9_step 38 = .ok (.iload_n 1, 1) := by decide +kernel
theorem dX9_step_39 : decode cX9_step 39 = .ok (.iload_n 2, 1) := by decide +kernel
theorem dX9_step_40 : decode cX9_step 40 = .ok (.iastore, 1) := by decide +kernel
theorem dX9_step_41 : decode cX9_step 41 = .ok (.iconst 0, 1) := by decide +kernel
theorem dX9_step_42 : decode cX9_step 42 = .ok (.istore 4, 2) := by decide +kernel
theorem dX9_step_44 : decode cX9_step 44 = .ok (.iload 4, 2) := by decide +kernel
theorem dX9_step_46 : decode cX9_step 46 = .ok (.aload_n 0, 1) := by decide +kernel
theorem dX9_step_47 : decode cX9_step 47 = .ok (.getfield 69, 3) := by decide +kernel
theorem dX9_step_50 : decode cX9_step 50 = .ok (.if_icmp .ge 24, 3) := by decide +kernel
theorem dX9_step_53 : decode cX9_step 53 = .ok (.aload_n 0, 1) := by decide +kernel
theorem dX9_step_54 : decode cX9_step 54 = .ok (.getfield 22, 3) := by decide +kernel
theorem dX9_step_57 : decode cX9_step 57 = .ok (.iload 4, 2) := by decide +kernel
theorem dX9_step_59 : decode cX9_step 59 = .ok (.dup2, 1) := by decide +kernel
theorem dX9_step_60 : decode cX9_step 60 = .ok (.iaload, 1) := by decide +kernel
theorem dX9_step_61 : decode cX9_step 61 = .ok (.iconst 1, 1) := by decide +kernel
theorem dX9_step_62 : decode cX9_step 62 = .ok (.iload_n 1, 1) := by decide +kernel
theorem dX9_step_63 : decode cX9_step 63 = .ok (.ishl, 1) := by decide +kernel
theorem dX9_step_64 : decode cX9_step 64 = .ok (.iconst (-1), 1) := by decide +kernel
theorem dX9_step_65 : decode cX9_step 65 = .ok (.ixor, 1) := by decide +kernel
theorem dX9_step_66 : decode cX9_step 66 = .ok (.iand, 1) := by decide +kernel
theorem dX9_step_67 : decode cX9_step 67 = .ok (.iastore, 1) := by decide +kernel
theorem dX9_step_68 : decode cX9_step 68 = .ok (.iinc 4 1, 3) := by decide +kernel
theorem dX9_step_71 : decode cX9_step 71 = .ok (.goto (-27), 3) := by decide +kernel
theorem dX9_step_74 : decode cX9_step 74 = .ok (.iload_n 3, 1) := by decide +kernel
theorem dX9_step_75 : decode cX9_step 75 = .ok (.ireturn, 1) := by decide +kernel
theorem dX9_undo_0 : decode cX9_undo 0 = .ok (.aload_n 0, 1) := by decide +kernel
theorem dX9_undo_1 : decode cX9_undo 1 = .ok (.getfield 88, 3) := by decide +kernel
theorem dX9_undo_4 : decode cX9_undo 4 = .ok (.ifCond .ne 8, 3) := by decide +kernel
theorem dX9_undo_7 : decode cX9_undo 7 = .ok (.aload_n 0, 1) := by decide +kernel
theorem dX9_undo_8 : decode cX9_undo 8 = .ok (.invokevirtual 222, 3) := by decide +kernel
theorem dX9_undo_11 : decode cX9_undo 11 = .ok (.ireturn, 1) := by decide +kernel
theorem dX9_undo_12 : decode cX9_undo 12 = .ok (.aload_n 0, 1) := by decide +kernel
theorem dX9_undo_13 : decode cX9_undo 13 = .ok (.dup, 1) := by decide +kernel
theorem dX9_undo_14 : decode cX9_undo 14 = .ok (.getfield 88, 3) := by decide +kernel
theorem dX9_undo_17 : decode cX9_undo 17 = .ok (.iconst 1, 1) := by decide +kernel
theorem dX9_undo_18 : decode cX9_undo 18 = .ok (.isub, 1) := by decide +kernel
theorem dX9_undo_19 : decode cX9_undo 19 = .ok (.putfield 88, 3) := by decide +kernel
theorem dX9_undo_22 : decode cX9_undo 22 = .ok (.aload_n 0, 1) := by decide +kernel
theorem dX9_undo_23 : decode cX9_undo 23 = .ok (.aload_n 0, 1) := by decide +kernel
theorem dX9_undo_24 : decode cX9_undo 24 = .ok (.getfield 43, 3) := by decide +kernel
theorem dX9_undo_27 : decode cX9_undo 27 = .ok (.bipush 22, 2) := by decide +kernel
theorem dX9_undo_29 : decode cX9_undo 29 = .ok (.aload_n 0, 1) := by decide +kernel
theorem dX9_undo_30 : decode cX9_undo 30 = .ok (.getfield 88, 3) := by decide +kernel
theorem dX9_undo_33 : decode cX9_undo 33 = .ok (.imul, 1) := by decide +kernel
theorem dX9_undo_34 : decode cX9_undo 34 = .ok (.invokevirtual 241, 3) := by decide +kernel
theorem dX9_undo_37 : decode cX9_undo 37 = .ok (.aload_n 0, 1) := by decide +kernel
theorem dX9_undo_38 : decode cX9_undo 38 = .ok (.getfield 73, 3) := by decide +kernel
theorem dX9_undo_41 : decode cX9_undo 41 = .ok (.ireturn, 1) := by decide +kernel
theorem dX9_of_0 : decode cX9_of 0 = .ok (.aload_n 0, 1) := by decide +kernel
theorem dX9_of_1 : decode cX9_of 1 = .ok (.iload_n 1, 1) := by decide +kernel
theorem dX9_of_2 : decode cX9_of 2 = .ok (.invokevirtual 216, 3) := by decide +kernel
theorem dX9_of_5 : decode cX9_of 5 = .ok (.ifCond .eq 12, 3) := by decide +kernel
theorem dX9_of_8 : decode cX9_of 8 = .ok (.iload_n 2, 1) := by decide +kernel
theorem dX9_of_9 : decode cX9_of 9 = .ok (.iconst 0, 1) := by decide +kernel
theorem dX9_of_10 : decode cX9_of 10 = .ok (.iconst 3, 1) := by decide +kernel
theorem dX9_of_11 : decode cX9_of 11 = .ok (.invokestatic 91, 3) := by decide +kernel
theorem dX9_of_14 : decode cX9_of 14 = .ok (.ifCond .ne 8, 3) := by decide +kernel
theorem dX9_of_17 : decode cX9_of 17 = .ok (.aload_n 0, 1) := by decide +kernel
theorem dX9_of_18 : decode cX9_of 18 = .ok (.invokevirtual 232, 3) := by decide +kernel
theorem dX9_of_21 : decode cX9_of 21 = .ok (.ireturn, 1) := by decide +kernel
theorem dX9_of_22 : decode cX9_of 22 = .ok (.iload_n 2, 1) := by decide +kernel
theorem dX9_of_23 : decode cX9_of 23 = .ok (.ifCond .ne 12, 3) := by decide +kernel
theorem dX9_of_26 : decode cX9_of 26 = .ok (.aload_n 0, 1) := by decide +kernel
theorem dX9_of_27 : decode cX9_of 27 = .ok (.getfield 13, 3) := by decide +kernel
theorem dX9_of_30 : decode cX9_of 30 = .ok (.iload_n 1, 1) := by decide +kernel
theorem dX9_of_31 : decode cX9_of 31 = .ok (.iaload, 1) := by decide +kernel
theorem dX9_of_32 : decode cX9_of 32 = .ok (.goto 37, 3) := by decide +kernel
theorem dX9_of_35 : decode cX9_of 35 = .ok (.iload_n 2, 1) := by decide +kernel
theorem dX9_of_36 : decode cX9_of 36 = .ok (.iconst 1, 1) := by decide +kernel
theorem dX9_of_37 : decode cX9_of 37 = .ok (.if_icmp .ne 12, 3) := by decide +kernel
theorem dX9_of_40 : decode cX9_of 40 = .ok (.aload_n 0, 1) := by decide +kernel
theorem dX9_of_41 : decode cX9_of 41 = .ok (.getfield 16, 3) := by decide +kernel
theorem dX9_of_44 : decode cX9_of 44 = .ok (.iload_n 1, 1) := by decide +kernel
theorem dX9_of_45 : decode cX9_of 45 = .ok (.iaload, 1) := by decide +kernel
theorem dX9_of_46 : decode cX9_of 46 = .ok (.goto 23, 3) := by decide +kernel
theorem dX9_of_49 : decode cX9_of 49 = .ok (.iload_n 2, 1) := by decide +kernel
theorem dX9_of_50 : decode cX9_of 50 = .ok (.iconst 2, 1) := by decide +kernel
theorem dX9_of_51 : decode cX9_of 51 = .ok (.if_icmp .ne 12, 3) := by decide +kernel
theorem dX9_of_54 : decode cX9_of 54 = .ok (.aload_n 0, 1) := by decide +kernel
theorem dX9_of_55 : decode cX9_of 55 = .ok (.getfield 19, 3) := by decide +kernel
theorem dX9_of_58 : decode cX9_of 58 = .ok (.iload_n 1, 1) := by decide +kernel
theorem dX9_of_59 : decode cX9_of 59 = .ok (.iaload, 1) := by decide +kernel
theorem dX9_of_60 : decode cX9_of 60 = .ok (.goto 9, 3) := by decide +kernel
theorem dX9_of_63 : decode cX9_of 63 = .ok (.aload_n 0, 1) := by decide +kernel
theorem dX9_of_64 : decode cX9_of 64 = .ok (.getfield 22, 3) := by decide +kernel
theorem dX9_of_67 : decode cX9_of 67 = .ok (.iload_n 1, 1) := by decide +kernel
theorem dX9_of_68 : decode cX9_of 68 = .ok (.iaload, 1) := by decide +kernel
theorem dX9_of_69 : decode cX9_of 69 = .ok (.ireturn, 1) := by decide +kernel
theorem dX9_about_0 : decode cX9_about 0 = .ok (.iload_n 1, 1) := by decide +kernel
theorem dX9_about_1 : decode cX9_about 1 = .ok (.invokestatic 219, 3) := by decide +kernel
theorem dX9_about_4 : decode cX9_about 4 = .ok (.ifCond .eq 12, 3) := by decide +kernel
theorem dX9_about_7 : decode cX9_about 7 = .ok (.iload_n 2, 1) := by decide +kernel
theorem dX9_about_8 : decode cX9_about 8 = .ok (.iconst 0, 1) := by decide +kernel
theorem dX9_about_9 : decode cX9_about 9 = .ok (.iconst 2, 1) := by decide +kernel
theorem dX9_about_10 : decode cX9_about 10 = .ok (.invokestatic 91, 3) := by decide +kernel
theorem dX9_about_13 : decode cX9_about 13 = .ok (.ifCond .ne 8, 3) := by decide +kernel
theorem dX9_about_16 : decode cX9_about 16 = .ok (.aload_n 0, 1) := by decide +kernel
theorem dX9_about_17 : decode cX9_about 17 = .ok (.invokevirtual 95, 3) := by decide +kernel
theorem dX9_about_20 : decode cX9_about 20 = .ok (.ireturn, 1) := by decide +kernel
theorem dX9_about_21 : decode cX9_about 21 = .ok (.iload_n 2, 1) := by decide +kernel
theorem dX9_about_22 : decode cX9_about 22 = .ok (.ifCond .ne 12, 3) := by decide +kernel
theorem dX9_about_25 : decode cX9_about 25 = .ok (.aload_n 0, 1) := by decide +kernel
theorem dX9_about_26 : decode cX9_about 26 = .ok (.getfield 25, 3) := by decide +kernel
theorem dX9_about_29 : decode cX9_about 29 = .ok (.iload_n 1, 1) := by decide +kernel
theorem dX9_about_30 : decode cX9_about 30 = .ok (.iaload, 1) := by decide +kernel
theorem dX9_about_31 : decode cX9_about 31 = .ok (.goto 24, 3) := by decide +kernel
theorem dX9_about_34 : decode cX9_about 34 = .ok (.iload_n 2, 1) := by decide +kernel
theorem dX9_about_35 : decode cX9_about 35 = .ok (.iconst 1, 1) := by decide +kernel
theorem dX9_about_36 : decode cX9_about 36 = .ok (.if_icmp .ne 11, 3) := by decide +kernel
theorem dX9_about_39 : decode cX9_about 39 = .ok (.aload_n 0, 1) := by decide +kernel
theorem dX9_about_40 : decode cX9_about 40 = .ok (.iload_n 1, 1) := by decide +kernel
theorem dX9_about_41 : decode cX9_about 41 = .ok (.invokevirtual 238, 3) := by decide +kernel
theorem dX9_about_44 : decode cX9_about 44 = .ok (.goto 11, 3) := by decide +kernel
theorem dX9_about_47 : decode cX9_about 47 = .ok (.aload_n 0, 1) := by decide +kernel
theorem dX9_about_48 : decode cX9_about 48 = .ok (.getfield 76, 3) := by decide +kernel
theorem dX9_about_51 : decode cX9_about 51 = .ok (.iload_n 1, 1) := by decide +kernel
theorem dX9_about_52 : decode cX9_about 52 = .ok (.ishr, 1) := by decide +kernel
theorem dX9_about_53 : decode cX9_about 53 = .ok (.iconst 1, 1) := by decide +kernel
theorem dX9_about_54 : decode cX9_about 54 = .ok (.iand, 1) := by decide +kernel
theorem dX9_about_55 : decode cX9_about 55 = .ok (.ireturn, 1) := by decide +kernel
theorem dX9_asks_0 : decode cX9_asks 0 = .ok (.aload_n 0, 1) := by decide +kernel
theorem dX9_asks_1 : decode cX9_asks 1 = .ok (.iload_n 1, 1) := by decide +kernel
theorem dX9_asks_2 : decode cX9_asks 2 = .ok (.invokevirtual 216, 3) := by decide +kernel
theorem dX9_asks_5 : decode cX9_asks 5 = .ok (.ifCond .eq 19, 3) := by decide +kernel
theorem dX9_asks_8 : decode cX9_asks 8 = .ok (.iload_n 2, 1) := by decide +kernel
theorem dX9_asks_9 : decode cX9_asks 9 = .ok (.invokestatic 219, 3) := by decide +kernel
theorem dX9_asks_12 : decode cX9_asks 12 = .ok (.ifCond .eq 12, 3) := by decide +kernel
theorem dX9_asks_15 : decode cX9_asks 15 = .ok (.iload_n 3, 1) := by decide +kernel
theorem dX9_asks_16 : decode cX9_asks 16 = .ok (.iconst 0, 1) := by decide +kernel
theorem dX9_asks_17 : decode cX9_asks 17 = .ok (.iconst 2, 1) := by decide +kernel
theorem dX9_asks_18 : decode cX9_asks 18 = .ok (.invokestatic 91, 3) := by decide +kernel
theorem dX9_asks_21 : decode cX9_asks 21 = .ok (.ifCond .ne 8, 3) := by decide +kernel
theorem dX9_asks_24 : decode cX9_asks 24 = .ok (.aload_n 0, 1) := by decide +kernel
theorem dX9_asks_25 : decode cX9_asks 25 = .ok (.invokevirtual 95, 3) := by decide +kernel
theorem dX9_asks_28 : decode cX9_asks 28 = .ok (.ireturn, 1) := by decide +kernel
theorem dX9_asks_29 : decode cX9_asks 29 = .ok (.aload_n 0, 1) := by decide +kernel
theorem dX9_asks_30 : decode cX9_asks 30 = .ok (.invokevirtual 210, 3) := by decide +kernel
theorem dX9_asks_33 : decode cX9_asks 33 = .ok (.istore 4, 2) := by decide +kernel
theorem dX9_asks_35 : decode cX9_asks 35 = .ok (.iload_n 3, 1) := by decide +kernel
theorem dX9_asks_36 : decode cX9_asks 36 = .ok (.ifCond .ne 14, 3) := by decide +kernel
theorem dX9_asks_39 : decode cX9_asks 39 = .ok (.aload_n 0, 1) := by decide +kernel
theorem dX9_asks_40 : decode cX9_asks 40 = .ok (.iload_n 1, 1) := by decide +kernel
theorem dX9_asks_41 : decode cX9_asks 41 = .ok (.iload_n 2, 1) := by decide +kernel
theorem dX9_asks_42 : decode cX9_asks 42 = .ok (.iload 4, 2) := by decide +kernel
theorem dX9_asks_44 : decode cX9_asks 44 = .ok (.invokevirtual 198, 3) := by decide +kernel
theorem dX9_asks_47 : decode cX9_asks 47 = .ok (.goto 48, 3) := by decide +kernel
theorem dX9_asks_50 : decode cX9_asks 50 = .ok (.iload_n 3, 1) := by decide +kernel
theorem dX9_asks_51 : decode cX9_asks 51 = .ok (.iconst 1, 1) := by decide +kernel
theorem dX9_asks_52 : decode cX9_asks 52 = .ok (.if_icmp .ne 14, 3) := by decide +kernel
theorem dX9_asks_55 : decode cX9_asks 55 = .ok (.aload_n 0, 1) := by decide +kernel
theorem dX9_asks_56 : decode cX9_asks 56 = .ok (.iload_n 1, 1) := by decide +kernel
theorem dX9_asks_57 : decode cX9_asks 57 = .ok (.iload_n 2, 1) := by decide +kernel
theorem dX9_asks_58 : decode cX9_asks 58 = .ok (.iload 4, 2) := by decide +kernel
theorem dX9_asks_60 : decode cX9_asks 60 = .ok (.invokevirtual 195, 3) := by decide +kernel
theorem dX9_asks_63 : decode cX9_asks 63 = .ok (.goto 32, 3) := by decide +kernel
theorem dX9_asks_66 : decode cX9_asks 66 = .ok (.aload_n 0, 1) := by decide +kernel
theorem dX9_asks_67 : decode cX9_asks 67 = .ok (.getfield 22, 3) := by decide +kernel
theorem dX9_asks_70 : decode cX9_asks 70 = .ok (.iload_n 1, 1) := by decide +kernel
theorem dX9_asks_71 : decode cX9_asks 71 = .ok (.iaload, 1) := by decide +kernel
theorem dX9_asks_72 : decode cX9_asks 72 = .ok (.iload_n 2, 1) := by decide +kernel
theorem dX9_asks_73 : decode cX9_asks 73 = .ok (.invokestatic 189, 3) := by decide +kernel
theorem dX9_asks_76 : decode cX9_asks 76 = .ok (.ifCond .ne 14, 3) := by decide +kernel
theorem dX9_asks_79 : decode cX9_asks 79 = .ok (.aload_n 0, 1) := by decide +kernel
theorem dX9_asks_80 : decode cX9_asks 80 = .ok (.iload_n 1, 1) := by decide +kernel
theorem dX9_asks_81 : decode cX9_asks 81 = .ok (.iload_n 2, 1) := by decide +kernel
theorem dX9_asks_82 : decode cX9_asks 82 = .ok (.iload 4, 2) := by decide +kernel
theorem dX9_asks_84 : decode cX9_asks 84 = .ok (.invokevirtual 213, 3) := by decide +kernel
theorem dX9_asks_87 : decode cX9_asks 87 = .ok (.ifCond .eq 7, 3) := by decide +kernel
theorem dX9_asks_90 : decode cX9_asks 90 = .ok (.iconst 1, 1) := by decide +kernel
theorem dX9_asks_91 : decode cX9_asks 91 = .ok (.goto 4, 3) := by decide +kernel
theorem dX9_asks_94 : decode cX9_asks 94 = .ok (.iconst 0, 1) := by decide +kernel
theorem dX9_asks_95 : decode cX9_asks 95 = .ok (.ireturn, 1) := by decide +kernel
theorem dX9_word_0 : decode cX9_word 0 = .ok (.aload_n 0, 1) := by decide +kernel
theorem dX9_word_1 : decode cX9_word 1 = .ok (.iload_n 1, 1) := by decide +kernel
theorem dX9_word_2 : decode cX9_word 2 = .ok (.invokevirtual 216, 3) := by decide +kernel
theorem dX9_word_5 : decode cX9_word 5 = .ok (.ifCond .eq 15, 3) := by decide +kernel
theorem dX9_word_8 : decode cX9_word 8 = .ok (.aload_n 0, 1) := by decide +kernel
theorem dX9_word_9 : decode cX9_word 9 = .ok (.iload_n 1, 1) := by decide +kernel
theorem dX9_word_10 : decode cX9_word 10 = .ok (.aload_n 0, 1) := by decide +kernel
theorem dX9_word_11 : decode cX9_word 11 = .ok (.invokevirtual 210, 3) := by decide +kernel
theorem dX9_word_14 : decode cX9_word 14 = .ok (.invokevirtual 192, 3) := by decide +kernel
theorem dX9_word_17 : decode cX9_word 17 = .ok (.goto 7, 3) := by decide +kernel
theorem dX9_word_20 : decode cX9_word 20 = .ok (.aload_n 0, 1) := by decide +kernel
theorem dX9_word_21 : decode cX9_word 21 = .ok (.invokevirtual 95, 3) := by decide +kernel
theorem dX9_word_24 : decode cX9_word 24 = .ok (.ireturn, 1) := by decide +kernel
theorem dX9_high_0 : decode cX9_high 0 = .ok (.aload_n 0, 1) := by decide +kernel
theorem dX9_high_1 : decode cX9_high 1 = .ok (.iload_n 1, 1) := by decide +kernel
theorem dX9_high_2 : decode cX9_high 2 = .ok (.invokevirtual 216, 3) := by decide +kernel
theorem dX9_high_5 : decode cX9_high 5 = .ok (.ifCond .ne 8, 3) := by decide +kernel
theorem dX9_high_8 : decode cX9_high 8 = .ok (.aload_n 0, 1) := by decide +kernel
theorem dX9_high_9 : decode cX9_high 9 = .ok (.invokevirtual 232, 3) := by decide +kernel
theorem dX9_high_12 : decode cX9_high 12 = .ok (.ireturn, 1) := by decide +kernel
theorem dX9_high_13 : decode cX9_high 13 = .ok (.aload_n 0, 1) := by decide +kernel
theorem dX9_high_14 : decode cX9_high 14 = .ok (.getfield 19, 3) := by decide +kernel
theorem dX9_high_17 : decode cX9_high 17 = .ok (.iload_n 1, 1) := by decide +kernel
theorem dX9_high_18 : decode cX9_high 18 = .ok (.iaload, 1) := by decide +kernel
theorem dX9_high_19 : decode cX9_high 19 = .ok (.istore_n 2, 1) := by decide +kernel
theorem dX9_high_20 : decode cX9_high 20 = .ok (.iload_n 2, 1) := by decide +kernel
theorem dX9_high_21 : decode cX9_high 21 = .ok (.bipush 8, 2) := by decide +kernel
theorem dX9_high_23 : decode cX9_high 23 = .ok (.if_icmp .ge 30, 3) := by decide +kernel
theorem dX9_high_26 : decode cX9_high 26 = .ok (.iload_n 2, 1) := by decide +kernel
theorem dX9_high_27 : decode cX9_high 27 = .ok (.bipush 7, 2) := by decide +kernel
theorem dX9_high_29 : decode cX9_high 29 = .ok (.if_icmp .eq 18, 3) := by decide +kernel
theorem dX9_high_32 : decode cX9_high 32 = .ok (.aload_n 0, 1) := by decide +kernel
theorem dX9_high_33 : decode cX9_high 33 = .ok (.getfield 22, 3) := by decide +kernel
theorem dX9_high_36 : decode cX9_high 36 = .ok (.iload_n 1, 1) := by decide +kernel
theorem dX9_high_37 : decode cX9_high 37 = .ok (.iaload, 1) := by decide +kernel
theorem dX9_high_38 : decode cX9_high 38 = .ok (.iload_n 2, 1) := by decide +kernel
theorem dX9_high_39 : decode cX9_high 39 = .ok (.iconst 1, 1) := by decide +kernel
theorem dX9_high_40 : decode cX9_high 40 = .ok (.iadd, 1) := by decide +kernel
theorem dX9_high_41 : decode cX9_high 41 = .ok (.invokestatic 189, 3) := by decide +kernel
theorem dX9_high_44 : decode cX9_high 44 = .ok (.ifCond .eq 9, 3) := by decide +kernel
theorem dX9_high_47 : decode cX9_high 47 = .ok (.iinc 2 1, 3) := by decide +kernel
theorem dX9_high_50 : decode cX9_high 50 = .ok (.goto (-30), 3) := by decide +kernel
theorem dX9_high_53 : decode cX9_high 53 = .ok (.iload_n 2, 1) := by decide +kernel
theorem dX9_high_54 : decode cX9_high 54 = .ok (.ireturn, 1) := by decide +kernel
theorem dX9_hears_0 : decode cX9_hears 0 = .ok (.aload_n 0, 1) := by decide +kernel
theorem dX9_hears_1 : decode cX9_hears 1 = .ok (.iload_n 1, 1) := by decide +kernel
theorem dX9_hears_2 : decode cX9_hears 2 = .ok (.invokevirtual 216, 3) := by decide +kernel
theorem dX9_hears_5 : decode cX9_hears 5 = .ok (.ifCond .eq 10, 3) := by decide +kernel
theorem dX9_hears_8 : decode cX9_hears 8 = .ok (.iload_n 2, 1) := by decide +kernel
theorem dX9_hears_9 : decode cX9_hears 9 = .ok (.invokestatic 219, 3) := by decide +kernel
theorem dX9_hears_12 : decode cX9_hears 12 = .ok (.ifCond .ne 8, 3) := by decide +kernel
theorem dX9_hears_15 : decode cX9_hears 15 = .ok (.aload_n 0, 1) := by decide +kernel
theorem dX9_hears_16 : decode cX9_hears 16 = .ok (.invokevirtual 95, 3) := by decide +kernel
theorem dX9_hears_19 : decode cX9_hears 19 = .ok (.ireturn, 1) := by decide +kernel
theorem dX9_hears_20 : decode cX9_hears 20 = .ok (.aload_n 0, 1) := by decide +kernel
theorem dX9_hears_21 : decode cX9_hears 21 = .ok (.aload_n 0, 1) := by decide +kernel
theorem dX9_hears_22 : decode cX9_hears 22 = .ok (.getfield 46, 3) := by decide +kernel
theorem dX9_hears_25 : decode cX9_hears 25 = .ok (.iconst 0, 1) := by decide +kernel
theorem dX9_hears_26 : decode cX9_hears 26 = .ok (.invokevirtual 207, 3) := by decide +kernel
theorem dX9_hears_29 : decode cX9_hears 29 = .ok (.iconst 0, 1) := by decide +kernel
theorem dX9_hears_30 : decode cX9_hears 30 = .ok (.istore_n 3, 1) := by decide +kernel
theorem dX9_hears_31 : decode cX9_hears 31 = .ok (.iload_n 3, 1) := by decide +kernel
theorem dX9_hears_32 : decode cX9_hears 32 = .ok (.bipush 60, 2) := by decide +kernel
theorem dX9_hears_34 : decode cX9_hears 34 = .ok (.if_icmp .ge 26, 3) := by decide +kernel
theorem dX9_hears_37 : decode cX9_hears 37 = .ok (.aload_n 0, 1) := by decide +kernel
theorem dX9_hears_38 : decode cX9_hears 38 = .ok (.getfield 22, 3) := by decide +kernel
theorem dX9_hears_41 : decode cX9_hears 41 = .ok (.iload_n 1, 1) := by decide +kernel
theorem dX9_hears_42 : decode cX9_hears 42 = .ok (.iaload, 1) := by decide +kernel
theorem dX9_hears_43 : decode cX9_hears 43 = .ok (.iload_n 2, 1) := by decide +kernel
theorem dX9_hears_44 : decode cX9_hears 44 = .ok (.invokestatic 189, 3) := by decide +kernel
theorem dX9_hears_47 : decode cX9_hears 47 = .ok (.ifCond .ne 13, 3) := by decide +kernel
theorem dX9_hears_50 : decode cX9_hears 50 = .ok (.aload_n 0, 1) := by decide +kernel
theorem dX9_hears_51 : decode cX9_hears 51 = .ok (.invokevirtual 204, 3) := by decide +kernel
theorem dX9_hears_54 : decode cX9_hears 54 = .ok (.iinc 3 1, 3) := by decide +kernel
theorem dX9_hears_57 : decode cX9_hears 57 = .ok (.goto (-26), 3) := by decide +kernel
theorem dX9_hears_60 : decode cX9_hears 60 = .ok (.aload_n 0, 1) := by decide +kernel
theorem dX9_hears_61 : decode cX9_hears 61 = .ok (.getfield 22, 3) := by decide +kernel
theorem dX9_hears_64 : decode cX9_hears 64 = .ok (.iload_n 1, 1) := by decide +kernel
theorem dX9_hears_65 : decode cX9_hears 65 = .ok (.iaload, 1) := by decide +kernel
theorem dX9_hears_66 : decode cX9_hears 66 = .ok (.iload_n 2, 1) := by decide +kernel
theorem dX9_hears_67 : decode cX9_hears 67 = .ok (.invokestatic 189, 3) := by decide +kernel
theorem dX9_hears_70 : decode cX9_hears 70 = .ok (.istore 4, 2) := by decide +kernel
theorem dX9_hears_72 : decode cX9_hears 72 = .ok (.aload_n 0, 1) := by decide +kernel
theorem dX9_hears_73 : decode cX9_hears 73 = .ok (.aload_n 0, 1) := by decide +kernel
theorem dX9_hears_74 : decode cX9_hears 74 = .ok (.getfield 46, 3) := by decide +kernel
theorem dX9_hears_77 : decode cX9_hears 77 = .ok (.iconst 0, 1) := by decide +kernel
theorem dX9_hears_78 : decode cX9_hears 78 = .ok (.invokevirtual 241, 3) := by decide +kernel
theorem dX9_hears_81 : decode cX9_hears 81 = .ok (.iload 4, 2) := by decide +kernel
theorem dX9_hears_83 : decode cX9_hears 83 = .ok (.ifCond .eq 7, 3) := by decide +kernel
theorem dX9_hears_86 : decode cX9_hears 86 = .ok (.iload_n 3, 1) := by decide +kernel
theorem dX9_hears_87 : decode cX9_hears 87 = .ok (.goto 4, 3) := by decide +kernel
theorem dX9_hears_90 : decode cX9_hears 90 = .ok (.iconst (-1), 1) := by decide +kernel
theorem dX9_hears_91 : decode cX9_hears 91 = .ok (.ireturn, 1) := by decide +kernel
theorem dX9_then_0 : decode cX9_then 0 = .ok (.aload_n 0, 1) := by decide +kernel
theorem dX9_then_1 : decode cX9_then 1 = .ok (.iload_n 1, 1) := by decide +kernel
theorem dX9_then_2 : decode cX9_then 2 = .ok (.invokevirtual 216, 3) := by decide +kernel
theorem dX9_then_5 : decode cX9_then 5 = .ok (.ifCond .eq 13, 3) := by decide +kernel
theorem dX9_then_8 : decode cX9_then 8 = .ok (.iload_n 2, 1) := by decide +kernel
theorem dX9_then_9 : decode cX9_then 9 = .ok (.iconst 0, 1) := by decide +kernel
theorem dX9_then_10 : decode cX9_then 10 = .ok (.bipush 60, 2) := by decide +kernel
theorem dX9_then_12 : decode cX9_then 12 = .ok (.invokestatic 91, 3) := by decide +kernel
theorem dX9_then_15 : decode cX9_then 15 = .ok (.ifCond .ne 8, 3) := by decide +kernel
theorem dX9_then_18 : decode cX9_then 18 = .ok (.aload_n 0, 1) := by decide +kernel
theorem dX9_then_19 : decode cX9_then 19 = .ok (.invokevirtual 95, 3) := by decide +kernel
theorem dX9_then_22 : decode cX9_then 22 = .ok (.ireturn, 1) := by decide +kernel
theorem dX9_then_23 : decode cX9_then 23 = .ok (.aload_n 0, 1) := by decide +kernel
theorem dX9_then_24 : decode cX9_then 24 = .ok (.aload_n 0, 1) := by decide +kernel
theorem dX9_then_25 : decode cX9_then 25 = .ok (.getfield 46, 3) := by decide +kernel
theorem dX9_then_28 : decode cX9_then 28 = .ok (.iconst 0, 1) := by decide +kernel
theorem dX9_then_29 : decode cX9_then 29 = .ok (.invokevirtual 207, 3) := by decide +kernel
theorem dX9_then_32 : decode cX9_then 32 = .ok (.aload_n 0, 1) := by decide +kernel
theorem dX9_then_33 : decode cX9_then 33 = .ok (.iload_n 2, 1) := by decide +kernel
theorem dX9_then_34 : decode cX9_then 34 = .ok (.invokevirtual 143, 3) := by decide +kernel
theorem dX9_then_37 : decode cX9_then 37 = .ok (.aload_n 0, 1) := by decide +kernel
theorem dX9_then_38 : decode cX9_then 38 = .ok (.getfield 22, 3) := by decide +kernel
theorem dX9_then_41 : decode cX9_then 41 = .ok (.iload_n 1, 1) := by decide +kernel
theorem dX9_then_42 : decode cX9_then 42 = .ok (.iaload, 1) := by decide +kernel
theorem dX9_then_43 : decode cX9_then 43 = .ok (.istore_n 3, 1) := by decide +kernel
theorem dX9_then_44 : decode cX9_then 44 = .ok (.aload_n 0, 1) := by decide +kernel
theorem dX9_then_45 : decode cX9_then 45 = .ok (.aload_n 0, 1) := by decide +kernel
theorem dX9_then_46 : decode cX9_then 46 = .ok (.getfield 46, 3) := by decide +kernel
theorem dX9_then_49 : decode cX9_then 49 = .ok (.iconst 0, 1) := by decide +kernel
theorem dX9_then_50 : decode cX9_then 50 = .ok (.invokevirtual 241, 3) := by decide +kernel
theorem dX9_then_53 : decode cX9_then 53 = .ok (.iload_n 3, 1) := by decide +kernel
theorem dX9_then_54 : decode cX9_then 54 = .ok (.ireturn, 1) := by decide +kernel
theorem dX9_isMay_0 : decode cX9_isMay 0 = .ok (.aload_n 0, 1) := by decide +kernel
theorem dX9_isMay_1 : decode cX9_isMay 1 = .ok (.getfield 49, 3) := by decide +kernel
theorem dX9_isMay_4 : decode cX9_isMay 4 = .ok (.iconst 4, 1) := by decide +kernel
theorem dX9_isMay_5 : decode cX9_isMay 5 = .ok (.iload_n 1, 1) := by decide +kernel
theorem dX9_isMay_6 : decode cX9_isMay 6 = .ok (.imul, 1) := by decide +kernel
theorem dX9_isMay_7 : decode cX9_isMay 7 = .ok (.iload_n 2, 1) := by decide +kernel
theorem dX9_isMay_8 : decode cX9_isMay 8 = .ok (.bipush 64, 2) := by decide +kernel
theorem dX9_isMay_10 : decode cX9_isMay 10 = .ok (.idiv, 1) := by decide +kernel
theorem dX9_isMay_11 : decode cX9_isMay 11 = .ok (.iadd, 1) := by decide +kernel
theorem dX9_isMay_12 : decode cX9_isMay 12 = .ok (.laload, 1) := by decide +kernel
theorem dX9_isMay_13 : decode cX9_isMay 13 = .ok (.iload_n 2, 1) := by decide +kernel
theorem dX9_isMay_14 : decode cX9_isMay 14 = .ok (.bipush 64, 2) := by decide +kernel
theorem dX9_isMay_16 : decode cX9_isMay 16 = .ok (.irem, 1) := by decide +kernel
theorem dX9_isMay_17 : decode cX9_isMay 17 = .ok (.lshr, 1) := by decide +kernel
theorem dX9_isMay_18 : decode cX9_isMay 18 = .ok (.lconst 1, 1) := by decide +kernel
theorem dX9_isMay_19 : decode cX9_isMay 19 = .ok (.land, 1) := by decide +kernel
theorem dX9_isMay_20 : decode cX9_isMay 20 = .ok (.lconst 1, 1) := by decide +kernel
theorem dX9_isMay_21 : decode cX9_isMay 21 = .ok (.lcmp, 1) := by decide +kernel
theorem dX9_isMay_22 : decode cX9_isMay 22 = .ok (.ifCond .ne 7, 3) := by decide +kernel
theorem dX9_isMay_25 : decode cX9_isMay 25 = .ok (.iconst 1, 1) := by decide +kernel
theorem dX9_isMay_26 : decode cX9_isMay 26 = .ok (.goto 4, 3) := by decide +kernel
theorem dX9_isMay_29 : decode cX9_isMay 29 = .ok (.iconst 0, 1) := by decide +kernel
theorem dX9_isMay_30 : decode cX9_isMay 30 = .ok (.ireturn, 1) := by decide +kernel
theorem dX9_setMay_0 : decode cX9_setMay 0 = .ok (.iconst 0, 1) := by decide +kernel
theorem dX9_setMay_1 : decode cX9_setMay 1 = .ok (.istore_n 2, 1) := by decide +kernel
theorem dX9_setMay_2 : decode cX9_setMay 2 = .ok (.iload_n 2, 1) := by decide +kernel
theorem dX9_setMay_3 : decode cX9_setMay 3 = .ok (.sipush 164, 3) := by decide +kernel
theorem dX9_setMay_6 : decode cX9_setMay 6 = .ok (.if_icmp .ge 16, 3) := by decide +kernel
theorem dX9_setMay_9 : decode cX9_setMay 9 = .ok (.aload_n 0, 1) := by decide +kernel
theorem dX9_setMay_10 : decode cX9_setMay 10 = .ok (.getfield 49, 3) := by decide +kernel
theorem dX9_setMay_13 : decode cX9_setMay 13 = .ok (.iload_n 2, 1) := by decide +kernel
theorem dX9_setMay_14 : decode cX9_setMay 14 = .ok (.lconst 0, 1) := by decide +kernel
theorem dX9_setMay_15 : decode cX9_setMay 15 = .ok (.lastore, 1) := by decide +kernel
theorem dX9_setMay_16 : decode cX9_setMay 16 = .ok (.iinc 2 1, 3) := by decide +kernel
theorem dX9_setMay_19 : decode cX9_setMay 19 = .ok (.goto (-17), 3) := by decide +kernel
theorem dX9_setMay_22 : decode cX9_setMay 22 = .ok (.aload_n 0, 1) := by decide +kernel
theorem dX9_setMay_23 : decode cX9_setMay 23 = .ok (.getfield 49, 3) := by decide +kernel
theorem dX9_setMay_26 : decode cX9_setMay 26 = .ok (.iconst 4, 1) := by decide +kernel
theorem dX9_setMay_27 : decode cX9_setMay 27 = .ok (.iload_n 1, 1) := by decide +kernel
theorem dX9_setMay_28 : decode cX9_setMay 28 = .ok (.imul, 1) := by decide +kernel
theorem dX9_setMay_29 : decode cX9_setMay 29 = .ok (.lconst 1, 1) := by decide +kernel
theorem dX9_setMay_30 : decode cX9_setMay 30 = .ok (.lastore, 1) := by decide +kernel
theorem dX9_setMay_31 : decode cX9_setMay 31 = .ok (.iload_n 1, 1) := by decide +kernel
theorem dX9_setMay_32 : decode cX9_setMay 32 = .ok (.iconst 1, 1) := by decide +kernel
theorem dX9_setMay_33 : decode cX9_setMay 33 = .ok (.isub, 1) := by decide +kernel
theorem dX9_setMay_34 : decode cX9_setMay 34 = .ok (.istore_n 2, 1) := by decide +kernel
theorem dX9_setMay_35 : decode cX9_setMay 35 = .ok (.iload_n 2, 1) := by decide +kernel
theorem dX9_setMay_36 : decode cX9_setMay 36 = .ok (.ifCond .lt 135, 3) := by decide +kernel
theorem dX9_setMay_39 : decode cX9_setMay 39 = .ok (.iconst 0, 1) := by decide +kernel
theorem dX9_setMay_40 : decode cX9_setMay 40 = .ok (.istore_n 3, 1) := by decide +kernel
theorem dX9_setMay_41 : decode cX9_setMay 41 = .ok (.iload_n 3, 1) := by decide +kernel
theorem dX9_setMay_42 : decode cX9_setMay 42 = .ok (.sipush 256, 3) := by decide +kernel
theorem dX9_setMay_45 : decode cX9_setMay 45 = .ok (.if_icmp .ge 120, 3) := by decide +kernel
theorem dX9_setMay_48 : decode cX9_setMay 48 = .ok (.aload_n 0, 1) := by decide +kernel
theorem dX9_setMay_49 : decode cX9_setMay 49 = .ok (.iload_n 2, 1) := by decide +kernel
theorem dX9_setMay_50 : decode cX9_setMay 50 = .ok (.iconst 1, 1) := by decide +kernel
theorem dX9_setMay_51 : decode cX9_setMay 51 = .ok (.iadd, 1) := by decide +kernel
theorem dX9_setMay_52 : decode cX9_setMay 52 = .ok (.iload_n 3, 1) := by decide +kernel
theorem dX9_setMay_53 : decode cX9_setMay 53 = .ok (.invokevirtual 244, 3) := by decide +kernel
theorem dX9_setMay_56 : decode cX9_setMay 56 = .ok (.istore 4, 2) := by decide +kernel
theorem dX9_setMay_58 : decode cX9_setMay 58 = .ok (.iconst 0, 1) := by decide +kernel
theorem dX9_setMay_59 : decode cX9_setMay 59 = .ok (.istore 5, 2) := by decide +kernel
theorem dX9_setMay_61 : decode cX9_setMay 61 = .ok (.iload 5, 2) := by decide +kernel
theorem dX9_setMay_63 : decode cX9_setMay 63 = .ok (.bipush 8, 2) := by decide +kernel
theorem dX9_setMay_65 : decode cX9_setMay 65 = .ok (.if_icmp .ge 63, 3) := by decide +kernel
theorem dX9_setMay_68 : decode cX9_setMay 68 = .ok (.iload 4, 2) := by decide +kernel
theorem dX9_setMay_70 : decode cX9_setMay 70 = .ok (.ifCond .ne 58, 3) := by decide +kernel
theorem dX9_setMay_73 : decode cX9_setMay 73 = .ok (.iload_n 3, 1) := by decide +kernel
theorem dX9_setMay_74 : decode cX9_setMay 74 = .ok (.aload_n 0, 1) := by decide +kernel
theorem dX9_setMay_75 : decode cX9_setMay 75 = .ok (.getfield 53, 3) := by decide +kernel
theorem dX9_setMay_78 : decode cX9_setMay 78 = .ok (.aload_n 0, 1) := by decide +kernel
theorem dX9_setMay_79 : decode cX9_setMay 79 = .ok (.getfield 73, 3) := by decide +kernel
theorem dX9_setMay_82 : decode cX9_setMay 82 = .ok (.iload_n 2, 1) := by decide +kernel
theorem dX9_setMay_83 : decode cX9_setMay 83 = .ok (.iadd, 1) := by decide +kernel
theorem dX9_setMay_84 : decode cX9_setMay 84 = .ok (.bipush 24, 2) := by decide +kernel
theorem dX9_setMay_86 : decode cX9_setMay 86 = .ok (.irem, 1) := by decide +kernel
theorem dX9_setMay_87 : decode cX9_setMay 87 = .ok (.iaload, 1) := by decide +kernel
theorem dX9_setMay_88 : decode cX9_setMay 88 = .ok (.iand, 1) := by decide +kernel
theorem dX9_setMay_89 : decode cX9_setMay 89 = .ok (.iload 5, 2) := by decide +kernel
theorem dX9_setMay_91 : decode cX9_setMay 91 = .ok (.invokestatic 189, 3) := by decide +kernel
theorem dX9_setMay_94 : decode cX9_setMay 94 = .ok (.ifCond .eq 25, 3) := by decide +kernel
theorem dX9_setMay_97 : decode cX9_setMay 97 = .ok (.aload_n 0, 1) := by decide +kernel
theorem dX9_setMay_98 : decode cX9_setMay 98 = .ok (.iload_n 2, 1) := by decide +kernel
theorem dX9_setMay_99 : decode cX9_setMay 99 = .ok (.iconst 1, 1) := by decide +kernel
theorem dX9_setMay_100 : decode cX9_setMay 100 = .ok (.iadd, 1) := by decide +kernel
theorem dX9_setMay_101 : decode cX9_setMay 101 = .ok (.iload_n 3, 1) := by decide +kernel
theorem dX9_setMay_102 : decode cX9_setMay 102 = .ok (.iconst 1, 1) := by decide +kernel
theorem dX9_setMay_103 : decode cX9_setMay 103 = .ok (.iload 5, 2) := by decide +kernel
theorem dX9_setMay_105 : decode cX9_setMay 105 = .ok (.ishl, 1) := by decide +kernel
theorem dX9_setMay_106 : decode cX9_setMay 106 = .ok (.iconst (-1), 1) := by decide +kernel
theorem dX9_setMay_107 : decode cX9_setMay 107 = .ok (.ixor, 1) := by decide +kernel
theorem dX9_setMay_108 : decode cX9_setMay 108 = .ok (.iand, 1) := by decide +kernel
theorem dX9_setMay_109 : decode cX9_setMay 109 = .ok (.invokevirtual 244, 3) := by decide +kernel
theorem dX9_setMay_112 : decode cX9_setMay 112 = .ok (.ifCond .eq 7, 3) := by decide +kernel
theorem dX9_setMay_115 : decode cX9_setMay 115 = .ok (.iconst 1, 1) := by decide +kernel
theorem dX9_setMay_116 : decode cX9_setMay 116 = .ok (.goto 4, 3) := by decide +kernel
theorem dX9_setMay_119 : decode cX9_setMay 119 = .ok (.iconst 0, 1) := by decide +kernel
theorem dX9_setMay_120 : decode cX9_setMay 120 = .ok (.istore 4, 2) := by decide +kernel
theorem dX9_setMay_122 : decode cX9_setMay 122 = .ok (.iinc 5 1, 3) := by decide +kernel
theorem dX9_setMay_125 : decode cX9_setMay 125 = .ok (.goto (-64), 3) := by decide +kernel
theorem dX9_setMay_128 : decode cX9_setMay 128 = .ok (.aload_n 0, 1) := by decide +kernel
theorem dX9_setMay_129 : decode cX9_setMay 129 = .ok (.getfield 49, 3) := by decide +kernel
theorem dX9_setMay_132 : decode cX9_setMay 132 = .ok (.iconst 4, 1) := by decide +kernel
theorem dX9_setMay_133 : decode cX9_setMay 133 = .ok (.iload_n 2, 1) := by decide +kernel
theorem dX9_setMay_134 : decode cX9_setMay 134 = .ok (.imul, 1) := by decide +kernel
theorem dX9_setMay_135 : decode cX9_setMay 135 = .ok (.iload_n 3, 1) := by decide +kernel
theorem dX9_setMay_136 : decode cX9_setMay 136 = .ok (.bipush 64, 2) := by decide +kernel
theorem dX9_setMay_138 : decode cX9_setMay 138 = .ok (.idiv, 1) := by decide +kernel
theorem dX9_setMay_139 : decode cX9_setMay 139 = .ok (.iadd, 1) := by decide +kernel
theorem dX9_setMay_140 : decode cX9_setMay 140 = .ok (.dup2, 1) := by decide +kernel
theorem dX9_setMay_141 : decode cX9_setMay 141 = .ok (.laload, 1) := by decide +kernel
theorem dX9_setMay_142 : decode cX9_setMay 142 = .ok (.iload 4, 2) := by decide +kernel
theorem dX9_setMay_144 : decode cX9_setMay 144 = .ok (.ifCond .eq 12, 3) := by decide +kernel
theorem dX9_setMay_147 : decode cX9_setMay 147 = .ok (.lconst 1, 1) := by decide +kernel
theorem dX9_setMay_148 : decode cX9_setMay 148 = .ok (.iload_n 3, 1) := by decide +kernel
theorem dX9_setMay_149 : decode cX9_setMay 149 = .ok (.bipush 64, 2) := by decide +kernel
theorem dX9_setMay_151 : decode cX9_setMay 151 = .ok (.irem, 1) := by decide +kernel
theorem dX9_setMay_152 : decode cX9_setMay 152 = .ok (.lshl, 1) := by decide +kernel
theorem dX9_setMay_153 : decode cX9_setMay 153 = .ok (.goto 4, 3) := by decide +kernel
theorem dX9_setMay_156 : decode cX9_setMay 156 = .ok (.lconst 0, 1) := by decide +kernel
theorem dX9_setMay_157 : decode cX9_setMay 157 = .ok (.lor, 1) := by decide +kernel
theorem dX9_setMay_158 : decode cX9_setMay 158 = .ok (.lastore, 1) := by decide +kernel
theorem dX9_setMay_159 : decode cX9_setMay 159 = .ok (.iinc 3 1, 3) := by decide +kernel
theorem dX9_setMay_162 : decode cX9_setMay 162 = .ok (.goto (-121), 3) := by decide +kernel
theorem dX9_setMay_165 : decode cX9_setMay 165 = .ok (.iinc 2 (-1), 3) := by decide +kernel
theorem dX9_setMay_168 : decode cX9_setMay 168 = .ok (.goto (-133), 3) := by decide +kernel
theorem dX9_setMay_171 : decode cX9_setMay 171 = .ok (.return_, 1) := by decide +kernel
theorem dX9_does_0 : decode cX9_does 0 = .ok (.aload_n 0, 1) := by decide +kernel
theorem dX9_does_1 : decode cX9_does 1 = .ok (.iload_n 1, 1) := by decide +kernel
theorem dX9_does_2 : decode cX9_does 2 = .ok (.iconst 1, 1) := by decide +kernel
theorem dX9_does_3 : decode cX9_does 3 = .ok (.iadd, 1) := by decide +kernel
theorem dX9_does_4 : decode cX9_does 4 = .ok (.iload_n 2, 1) := by decide +kernel
theorem dX9_does_5 : decode cX9_does 5 = .ok (.invokevirtual 244, 3) := by decide +kernel
theorem dX9_does_8 : decode cX9_does 8 = .ok (.ifCond .eq 5, 3) := by decide +kernel
theorem dX9_does_11 : decode cX9_does 11 = .ok (.iconst (-1), 1) := by decide +kernel
theorem dX9_does_12 : decode cX9_does 12 = .ok (.ireturn, 1) := by decide +kernel
theorem dX9_does_13 : decode cX9_does 13 = .ok (.iconst 0, 1) := by decide +kernel
theorem dX9_does_14 : decode cX9_does 14 = .ok (.istore_n 3, 1) := by decide +kernel
theorem dX9_does_15 : decode cX9_does 15 = .ok (.iload_n 2, 1) := by decide +kernel
theorem dX9_does_16 : decode cX9_does 16 = .ok (.aload_n 0, 1) := by decide +kernel
theorem dX9_does_17 : decode cX9_does 17 = .ok (.getfield 53, 3) := by decide +kernel
theorem dX9_does_20 : decode cX9_does 20 = .ok (.aload_n 0, 1) := by decide +kernel
theorem dX9_does_21 : decode cX9_does 21 = .ok (.getfield 73, 3) := by decide +kernel
theorem dX9_does_24 : decode cX9_does 24 = .ok (.iload_n 1, 1) := by decide +kernel
theorem dX9_does_25 : decode cX9_does 25 = .ok (.iadd, 1) := by decide +kernel
theorem dX9_does_26 : decode cX9_does 26 = .ok (.bipush 24, 2) := by decide +kernel
theorem dX9_does_28 : decode cX9_does 28 = .ok (.irem, 1) := by decide +kernel
theorem dX9_does_29 : decode cX9_does 29 = .ok (.iaload, 1) := by decide +kernel
theorem dX9_does_30 : decode cX9_does 30 = .ok (.iand, 1) := by decide +kernel
theorem dX9_does_31 : decode cX9_does 31 = .ok (.iload_n 3, 1) := by decide +kernel
theorem dX9_does_32 : decode cX9_does 32 = .ok (.invokestatic 189, 3) := by decide +kernel
theorem dX9_does_35 : decode cX9_does 35 = .ok (.ifCond .eq 20, 3) := by decide +kernel
theorem dX9_does_38 : decode cX9_does 38 = .ok (.aload_n 0, 1) := by decide +kernel
theorem dX9_does_39 : decode cX9_does 39 = .ok (.iload_n 1, 1) := by decide +kernel
theorem dX9_does_40 : decode cX9_does 40 = .ok (.iconst 1, 1) := by decide +kernel
theorem dX9_does_41 : decode cX9_does 41 = .ok (.iadd, 1) := by decide +kernel
theorem dX9_does_42 : decode cX9_does 42 = .ok (.iload_n 2, 1) := by decide +kernel
theorem dX9_does_43 : decode cX9_does 43 = .ok (.iconst 1, 1) := by decide +kernel
theorem dX9_does_44 : decode cX9_does 44 = .ok (.iload_n 3, 1) := by decide +kernel
theorem dX9_does_45 : decode cX9_does 45 = .ok (.ishl, 1) := by decide +kernel
theorem dX9_does_46 : decode cX9_does 46 = .ok (.iconst (-1), 1) := by decide +kernel
theorem dX9_does_47 : decode cX9_does 47 = .ok (.ixor, 1) := by decide +kernel
theorem dX9_does_48 : decode cX9_does 48 = .ok (.iand, 1) := by decide +kernel
theorem dX9_does_49 : decode cX9_does 49 = .ok (.invokevirtual 244, 3) := by decide +kernel
theorem dX9_does_52 : decode cX9_does 52 = .ok (.ifCond .ne 9, 3) := by decide +kernel
theorem dX9_does_55 : decode cX9_does 55 = .ok (.iinc 3 1, 3) := by decide +kernel
theorem dX9_does_58 : decode cX9_does 58 = .ok (.goto (-43), 3) := by decide +kernel
theorem dX9_does_61 : decode cX9_does 61 = .ok (.iload_n 3, 1) := by decide +kernel
theorem dX9_does_62 : decode cX9_does 62 = .ok (.ireturn, 1) := by decide +kernel
theorem dX9_plan_0 : decode cX9_plan 0 = .ok (.aload_n 0, 1) := by decide +kernel
theorem dX9_plan_1 : decode cX9_plan 1 = .ok (.iload_n 1, 1) := by decide +kernel
theorem dX9_plan_2 : decode cX9_plan 2 = .ok (.invokevirtual 216, 3) := by decide +kernel
theorem dX9_plan_5 : decode cX9_plan 5 = .ok (.ifCond .eq 24, 3) := by decide +kernel
theorem dX9_plan_8 : decode cX9_plan 8 = .ok (.iload_n 2, 1) := by decide +kernel
theorem dX9_plan_9 : decode cX9_plan 9 = .ok (.iconst 0, 1) := by decide +kernel
theorem dX9_plan_10 : decode cX9_plan 10 = .ok (.bipush 8, 2) := by decide +kernel
theorem dX9_plan_12 : decode cX9_plan 12 = .ok (.invokestatic 91, 3) := by decide +kernel
theorem dX9_plan_15 : decode cX9_plan 15 = .ok (.ifCond .eq 14, 3) := by decide +kernel
theorem dX9_plan_18 : decode cX9_plan 18 = .ok (.iload_n 3, 1) := by decide +kernel
theorem dX9_plan_19 : decode cX9_plan 19 = .ok (.iconst (-1), 1) := by decide +kernel
theorem dX9_plan_20 : decode cX9_plan 20 = .ok (.if_icmp .eq 9, 3) := by decide +kernel
theorem dX9_plan_23 : decode cX9_plan 23 = .ok (.iload_n 3, 1) := by decide +kernel
theorem dX9_plan_24 : decode cX9_plan 24 = .ok (.bipush (-2), 2) := by decide +kernel
theorem dX9_plan_26 : decode cX9_plan 26 = .ok (.if_icmp .ge 8, 3) := by decide +kernel
theorem dX9_plan_29 : decode cX9_plan 29 = .ok (.aload_n 0, 1) := by decide +kernel
theorem dX9_plan_30 : decode cX9_plan 30 = .ok (.invokevirtual 232, 3) := by decide +kernel
theorem dX9_plan_33 : decode cX9_plan 33 = .ok (.ireturn, 1) := by decide +kernel
theorem dX9_plan_34 : decode cX9_plan 34 = .ok (.iconst 0, 1) := by decide +kernel
theorem dX9_plan_35 : decode cX9_plan 35 = .ok (.istore 4, 2) := by decide +kernel
theorem dX9_plan_37 : decode cX9_plan 37 = .ok (.aload_n 0, 1) := by decide +kernel
theorem dX9_plan_38 : decode cX9_plan 38 = .ok (.getfield 19, 3) := by decide +kernel
theorem dX9_plan_41 : decode cX9_plan 41 = .ok (.iload_n 1, 1) := by decide +kernel
theorem dX9_plan_42 : decode cX9_plan 42 = .ok (.iaload, 1) := by decide +kernel
theorem dX9_plan_43 : decode cX9_plan 43 = .ok (.iconst 1, 1) := by decide +kernel
theorem dX9_plan_44 : decode cX9_plan 44 = .ok (.iadd, 1) := by decide +kernel
theorem dX9_plan_45 : decode cX9_plan 45 = .ok (.istore 5, 2) := by decide +kernel
theorem dX9_plan_47 : decode cX9_plan 47 = .ok (.iload 5, 2) := by decide +kernel
theorem dX9_plan_49 : decode cX9_plan 49 = .ok (.iload_n 2, 1) := by decide +kernel
theorem dX9_plan_50 : decode cX9_plan 50 = .ok (.if_icmp .gt 43, 3) := by decide +kernel
theorem dX9_plan_53 : decode cX9_plan 53 = .ok (.iload 5, 2) := by decide +kernel
theorem dX9_plan_55 : decode cX9_plan 55 = .ok (.bipush 8, 2) := by decide +kernel
theorem dX9_plan_57 : decode cX9_plan 57 = .ok (.if_icmp .ge 36, 3) := by decide +kernel
theorem dX9_plan_60 : decode cX9_plan 60 = .ok (.iload 4, 2) := by decide +kernel
theorem dX9_plan_62 : decode cX9_plan 62 = .ok (.aload_n 0, 1) := by decide +kernel
theorem dX9_plan_63 : decode cX9_plan 63 = .ok (.getfield 22, 3) := by decide +kernel
theorem dX9_plan_66 : decode cX9_plan 66 = .ok (.iload_n 1, 1) := by decide +kernel
theorem dX9_plan_67 : decode cX9_plan 67 = .ok (.iaload, 1) := by decide +kernel
theorem dX9_plan_68 : decode cX9_plan 68 = .ok (.iload 5, 2) := by decide +kernel
theorem dX9_plan_70 : decode cX9_plan 70 = .ok (.invokestatic 189, 3) := by decide +kernel
theorem dX9_plan_73 : decode cX9_plan 73 = .ok (.ifCond .eq 7, 3) := by decide +kernel
theorem dX9_plan_76 : decode cX9_plan 76 = .ok (.iconst 0, 1) := by decide +kernel
theorem dX9_plan_77 : decode cX9_plan 77 = .ok (.goto 7, 3) := by decide +kernel
theorem dX9_plan_80 : decode cX9_plan 80 = .ok (.iconst 1, 1) := by decide +kernel
theorem dX9_plan_81 : decode cX9_plan 81 = .ok (.iload 5, 2) := by decide +kernel
theorem dX9_plan_83 : decode cX9_plan 83 = .ok (.ishl, 1) := by decide +kernel
theorem dX9_plan_84 : decode cX9_plan 84 = .ok (.ior, 1) := by decide +kernel
theorem dX9_plan_85 : decode cX9_plan 85 = .ok (.istore 4, 2) := by decide +kernel
theorem dX9_plan_87 : decode cX9_plan 87 = .ok (.iinc 5 1, 3) := by decide +kernel
theorem dX9_plan_90 : decode cX9_plan 90 = .ok (.goto (-43), 3) := by decide +kernel
theorem dX9_plan_93 : decode cX9_plan 93 = .ok (.iconst 0, 1) := by decide +kernel
theorem dX9_plan_94 : decode cX9_plan 94 = .ok (.istore 5, 2) := by decide +kernel
theorem dX9_plan_96 : decode cX9_plan 96 = .ok (.iload 5, 2) := by decide +kernel
theorem dX9_plan_98 : decode cX9_plan 98 = .ok (.bipush 24, 2) := by decide +kernel
theorem dX9_plan_100 : decode cX9_plan 100 = .ok (.if_icmp .ge 63, 3) := by decide +kernel
theorem dX9_plan_103 : decode cX9_plan 103 = .ok (.aload_n 0, 1) := by decide +kernel
theorem dX9_plan_104 : decode cX9_plan 104 = .ok (.getfield 53, 3) := by decide +kernel
theorem dX9_plan_107 : decode cX9_plan 107 = .ok (.iload 5, 2) := by decide +kernel
theorem dX9_plan_109 : decode cX9_plan 109 = .ok (.iconst 0, 1) := by decide +kernel
theorem dX9_plan_110 : decode cX9_plan 110 = .ok (.iastore, 1) := by decide +kernel
theorem dX9_plan_111 : decode cX9_plan 111 = .ok (.iconst 0, 1) := by decide +kernel
theorem dX9_plan_112 : decode cX9_plan 112 = .ok (.istore 6, 2) := by decide +kernel
theorem dX9_plan_114 : decode cX9_plan 114 = .ok (.iload 6, 2) := by decide +kernel
theorem dX9_plan_116 : decode cX9_plan 116 = .ok (.bipush 8, 2) := by decide +kernel
theorem dX9_plan_118 : decode cX9_plan 118 = .ok (.if_icmp .ge 39, 3) := by decide +kernel
theorem dX9_plan_121 : decode cX9_plan 121 = .ok (.aload_n 0, 1) := by decide +kernel
theorem dX9_plan_122 : decode cX9_plan 122 = .ok (.getfield 53, 3) := by decide +kernel
theorem dX9_plan_125 : decode cX9_plan 125 = .ok (.iload 5, 2) := by decide +kernel
theorem dX9_plan_127 : decode cX9_plan 127 = .ok (.dup2, 1) := by decide +kernel
theorem dX9_plan_128 : decode cX9_plan 128 = .ok (.iaload, 1) := by decide +kernel
theorem dX9_plan_129 : decode cX9_plan 129 = .ok (.aload_n 0, 1) := by decide +kernel
theorem dX9_plan_130 : decode cX9_plan 130 = .ok (.iload_n 1, 1) := by decide +kernel
theorem dX9_plan_131 : decode cX9_plan 131 = .ok (.iload 6, 2) := by decide +kernel
theorem dX9_plan_133 : decode cX9_plan 133 = .ok (.iload 5, 2) := by decide +kernel
theorem dX9_plan_135 : decode cX9_plan 135 = .ok (.invokevirtual 213, 3) := by decide +kernel
theorem dX9_plan_138 : decode cX9_plan 138 = .ok (.ifCond .eq 10, 3) := by decide +kernel
theorem dX9_plan_141 : decode cX9_plan 141 = .ok (.iconst 1, 1) := by decide +kernel
theorem dX9_plan_142 : decode cX9_plan 142 = .ok (.iload 6, 2) := by decide +kernel
theorem dX9_plan_144 : decode cX9_plan 144 = .ok (.ishl, 1) := by decide +kernel
theorem dX9_plan_145 : decode cX9_plan 145 = .ok (.goto 4, 3) := by decide +kernel
theorem dX9_plan_148 : decode cX9_plan 148 = .ok (.iconst 0, 1) := by decide +kernel
theorem dX9_plan_149 : decode cX9_plan 149 = .ok (.ior, 1) := by decide +kernel
theorem dX9_plan_150 : decode cX9_plan 150 = .ok (.iastore, 1) := by decide +kernel
theorem dX9_plan_151 : decode cX9_plan 151 = .ok (.iinc 6 1, 3) := by decide +kernel
theorem dX9_plan_154 : decode cX9_plan 154 = .ok (.goto (-40), 3) := by decide +kernel
theorem dX9_plan_157 : decode cX9_plan 157 = .ok (.iinc 5 1, 3) := by decide +kernel
theorem dX9_plan_160 : decode cX9_plan 160 = .ok (.goto (-64), 3) := by decide +kernel
theorem dX9_plan_163 : decode cX9_plan 163 = .ok (.iconst 0, 1) := by decide +kernel
theorem dX9_plan_164 : decode cX9_plan 164 = .ok (.istore 5, 2) := by decide +kernel
theorem dX9_plan_166 : decode cX9_plan 166 = .ok (.aload_n 0, 1) := by decide +kernel
theorem dX9_plan_167 : decode cX9_plan 167 = .ok (.iconst 0, 1) := by decide +kernel
theorem dX9_plan_168 : decode cX9_plan 168 = .ok (.invokevirtual 247, 3) := by decide +kernel
theorem dX9_plan_171 : decode cX9_plan 171 = .ok (.iload 5, 2) := by decide +kernel
theorem dX9_plan_173 : decode cX9_plan 173 = .ok (.bipush 40, 2) := by decide +kernel
theorem dX9_plan_175 : decode cX9_plan 175 = .ok (.if_icmp .ge 25, 3) := by decide +kernel
theorem dX9_plan_178 : decode cX9_plan 178 = .ok (.aload_n 0, 1) := by decide +kernel
theorem dX9_plan_179 : decode cX9_plan 179 = .ok (.iconst 0, 1) := by decide +kernel
theorem dX9_plan_180 : decode cX9_plan 180 = .ok (.iload 4, 2) := by decide +kernel
theorem dX9_plan_182 : decode cX9_plan 182 = .ok (.invokevirtual 244, 3) := by decide +kernel
theorem dX9_plan_185 : decode cX9_plan 185 = .ok (.ifCond .ne 15, 3) := by decide +kernel
theorem dX9_plan_188 : decode cX9_plan 188 = .ok (.iinc 5 1, 3) := by decide +kernel
theorem dX9_plan_191 : decode cX9_plan 191 = .ok (.aload_n 0, 1) := by decide +kernel
theorem dX9_plan_192 : decode cX9_plan 192 = .ok (.iload 5, 2) := by decide +kernel
theorem dX9_plan_194 : decode cX9_plan 194 = .ok (.invokevirtual 247, 3) := by decide +kernel
theorem dX9_plan_197 : decode cX9_plan 197 = .ok (.goto (-26), 3) := by decide +kernel
theorem dX9_plan_200 : decode cX9_plan 200 = .ok (.aload_n 0, 1) := by decide +kernel
theorem dX9_plan_201 : decode cX9_plan 201 = .ok (.iconst 0, 1) := by decide +kernel
theorem dX9_plan_202 : decode cX9_plan 202 = .ok (.iload 4, 2) := by decide +kernel
theorem dX9_plan_204 : decode cX9_plan 204 = .ok (.invokevirtual 244, 3) := by decide +kernel
theorem dX9_plan_207 : decode cX9_plan 207 = .ok (.ifCond .ne 6, 3) := by decide +kernel
theorem dX9_plan_210 : decode cX9_plan 210 = .ok (.bipush (-6), 2) := by decide +kernel
theorem dX9_plan_212 : decode cX9_plan 212 = .ok (.ireturn, 1) := by decide +kernel
theorem dX9_plan_213 : decode cX9_plan 213 = .ok (.iload_n 3, 1) := by decide +kernel
theorem dX9_plan_214 : decode cX9_plan 214 = .ok (.ifCond .lt 9, 3) := by decide +kernel
theorem dX9_plan_217 : decode cX9_plan 217 = .ok (.iload_n 3, 1) := by decide +kernel
theorem dX9_plan_218 : decode cX9_plan 218 = .ok (.iload 5, 2) := by decide +kernel
theorem dX9_plan_220 : decode cX9_plan 220 = .ok (.if_icmp .lt 15, 3) := by decide +kernel
theorem dX9_plan_223 : decode cX9_plan 223 = .ok (.iload_n 3, 1) := by decide +kernel
theorem dX9_plan_224 : decode cX9_plan 224 = .ok (.ifCond .ge 8, 3) := by decide +kernel
theorem dX9_plan_227 : decode cX9_plan 227 = .ok (.iload 5, 2) := by decide +kernel
theorem dX9_plan_229 : decode cX9_plan 229 = .ok (.goto 5, 3) := by decide +kernel
theorem dX9_plan_232 : decode cX9_plan 232 = .ok (.bipush (-5), 2) := by decide +kernel
theorem dX9_plan_234 : decode cX9_plan 234 = .ok (.ireturn, 1) := by decide +kernel
theorem dX9_plan_235 : decode cX9_plan 235 = .ok (.iconst (-1), 1) := by decide +kernel
theorem dX9_plan_236 : decode cX9_plan 236 = .ok (.istore 6, 2) := by decide +kernel
theorem dX9_plan_238 : decode cX9_plan 238 = .ok (.iconst 0, 1) := by decide +kernel
theorem dX9_plan_239 : decode cX9_plan 239 = .ok (.istore 7, 2) := by decide +kernel
theorem dX9_plan_241 : decode cX9_plan 241 = .ok (.iload 7, 2) := by decide +kernel
theorem dX9_plan_243 : decode cX9_plan 243 = .ok (.iload_n 3, 1) := by decide +kernel
theorem dX9_plan_244 : decode cX9_plan 244 = .ok (.if_icmp .gt 40, 3) := by decide +kernel
theorem dX9_plan_247 : decode cX9_plan 247 = .ok (.aload_n 0, 1) := by decide +kernel
theorem dX9_plan_248 : decode cX9_plan 248 = .ok (.iload 7, 2) := by decide +kernel
theorem dX9_plan_250 : decode cX9_plan 250 = .ok (.iload 4, 2) := by decide +kernel
theorem dX9_plan_252 : decode cX9_plan 252 = .ok (.invokevirtual 250, 3) := by decide +kernel
theorem dX9_plan_255 : decode cX9_plan 255 = .ok (.istore 6, 2) := by decide +kernel
theorem dX9_plan_257 : decode cX9_plan 257 = .ok (.iload 4, 2) := by decide +kernel
theorem dX9_plan_259 : decode cX9_plan 259 = .ok (.iload 6, 2) := by decide +kernel
theorem dX9_plan_261 : decode cX9_plan 261 = .ok (.iconst (-1), 1) := by decide +kernel
theorem dX9_plan_262 : decode cX9_plan 262 = .ok (.if_icmp .ne 7, 3) := by decide +kernel
theorem dX9_plan_265 : decode cX9_plan 265 = .ok (.iconst (-1), 1) := by decide +kernel
theorem dX9_plan_266 : decode cX9_plan 266 = .ok (.goto 9, 3) := by decide +kernel
theorem dX9_plan_269 : decode cX9_plan 269 = .ok (.iconst 1, 1) := by decide +kernel
theorem dX9_plan_270 : decode cX9_plan 270 = .ok (.iload 6, 2) := by decide +kernel
theorem dX9_plan_272 : decode cX9_plan 272 = .ok (.ishl, 1) := by decide +kernel
theorem dX9_plan_273 : decode cX9_plan 273 = .ok (.iconst (-1), 1) := by decide +kernel
theorem dX9_plan_274 : decode cX9_plan 274 = .ok (.ixor, 1) := by decide +kernel
theorem dX9_plan_275 : decode cX9_plan 275 = .ok (.iand, 1) := by decide +kernel
theorem dX9_plan_276 : decode cX9_plan 276 = .ok (.istore 4, 2) := by decide +kernel
theorem dX9_plan_278 : decode cX9_plan 278 = .ok (.iinc 7 1, 3) := by decide +kernel
theorem dX9_plan_281 : decode cX9_plan 281 = .ok (.goto (-40), 3) := by decide +kernel
theorem dX9_plan_284 : decode cX9_plan 284 = .ok (.iload 6, 2) := by decide +kernel
theorem dX9_plan_286 : decode cX9_plan 286 = .ok (.ireturn, 1) := by decide +kernel
theorem dX9_seen_0 : decode cX9_seen 0 = .ok (.aload_n 0, 1) := by decide +kernel
theorem dX9_seen_1 : decode cX9_seen 1 = .ok (.iload_n 1, 1) := by decide +kernel
theorem dX9_seen_2 : decode cX9_seen 2 = .ok (.invokevirtual 216, 3) := by decide +kernel
theorem dX9_seen_5 : decode cX9_seen 5 = .ok (.ifCond .eq 19, 3) := by decide +kernel
theorem dX9_seen_8 : decode cX9_seen 8 = .ok (.iload_n 2, 1) := by decide +kernel
theorem dX9_seen_9 : decode cX9_seen 9 = .ok (.invokestatic 219, 3) := by decide +kernel
theorem dX9_seen_12 : decode cX9_seen 12 = .ok (.ifCond .eq 12, 3) := by decide +kernel
theorem dX9_seen_15 : decode cX9_seen 15 = .ok (.iload_n 3, 1) := by decide +kernel
theorem dX9_seen_16 : decode cX9_seen 16 = .ok (.iconst 0, 1) := by decide +kernel
theorem dX9_seen_17 : decode cX9_seen 17 = .ok (.iconst 1, 1) := by decide +kernel
theorem dX9_seen_18 : decode cX9_seen 18 = .ok (.invokestatic 91, 3) := by decide +kernel
theorem dX9_seen_21 : decode cX9_seen 21 = .ok (.ifCond .ne 8, 3) := by decide +kernel
theorem dX9_seen_24 : decode cX9_seen 24 = .ok (.aload_n 0, 1) := by decide +kernel
theorem dX9_seen_25 : decode cX9_seen 25 = .ok (.invokevirtual 95, 3) := by decide +kernel
theorem dX9_seen_28 : decode cX9_seen 28 = .ok (.ireturn, 1) := by decide +kernel
theorem dX9_seen_29 : decode cX9_seen 29 = .ok (.aload_n 0, 1) := by decide +kernel
theorem dX9_seen_30 : decode cX9_seen 30 = .ok (.getfield 79, 3) := by decide +kernel
theorem dX9_seen_33 : decode cX9_seen 33 = .ok (.bipush 6, 2) := by decide +kernel
theorem dX9_seen_35 : decode cX9_seen 35 = .ok (.if_icmp .ne 8, 3) := by decide +kernel
theorem dX9_seen_38 : decode cX9_seen 38 = .ok (.aload_n 0, 1) := by decide +kernel
theorem dX9_seen_39 : decode cX9_seen 39 = .ok (.invokevirtual 99, 3) := by decide +kernel
theorem dX9_seen_42 : decode cX9_seen 42 = .ok (.ireturn, 1) := by decide +kernel
theorem dX9_seen_43 : decode cX9_seen 43 = .ok (.aload_n 0, 1) := by decide +kernel
theorem dX9_seen_44 : decode cX9_seen 44 = .ok (.getfield 28, 3) := by decide +kernel
theorem dX9_seen_47 : decode cX9_seen 47 = .ok (.iconst 3, 1) := by decide +kernel
theorem dX9_seen_48 : decode cX9_seen 48 = .ok (.aload_n 0, 1) := by decide +kernel
theorem dX9_seen_49 : decode cX9_seen 49 = .ok (.getfield 79, 3) := by decide +kernel
theorem dX9_seen_52 : decode cX9_seen 52 = .ok (.imul, 1) := by decide +kernel
theorem dX9_seen_53 : decode cX9_seen 53 = .ok (.iload_n 1, 1) := by decide +kernel
theorem dX9_seen_54 : decode cX9_seen 54 = .ok (.iastore, 1) := by decide +kernel
theorem dX9_seen_55 : decode cX9_seen 55 = .ok (.aload_n 0, 1) := by decide +kernel
theorem dX9_seen_56 : decode cX9_seen 56 = .ok (.getfield 28, 3) := by decide +kernel
theorem dX9_seen_59 : decode cX9_seen 59 = .ok (.iconst 3, 1) := by decide +kernel
theorem dX9_seen_60 : decode cX9_seen 60 = .ok (.aload_n 0, 1) := by decide +kernel
theorem dX9_seen_61 : decode cX9_seen 61 = .ok (.getfield 79, 3) := by decide +kernel
theorem dX9_seen_64 : decode cX9_seen 64 = .ok (.imul, 1) := by decide +kernel
theorem dX9_seen_65 : decode cX9_seen 65 = .ok (.iconst 1, 1) := by decide +kernel
theorem dX9_seen_66 : decode cX9_seen 66 = .ok (.iadd, 1) := by decide +kernel
theorem dX9_seen_67 : decode cX9_seen 67 = .ok (.iload_n 2, 1) := by decide +kernel
theorem dX9_seen_68 : decode cX9_seen 68 = .ok (.iastore, 1) := by decide +kernel
theorem dX9_seen_69 : decode cX9_seen 69 = .ok (.aload_n 0, 1) := by decide +kernel
theorem dX9_seen_70 : decode cX9_seen 70 = .ok (.getfield 28, 3) := by decide +kernel
theorem dX9_seen_73 : decode cX9_seen 73 = .ok (.iconst 3, 1) := by decide +kernel
theorem dX9_seen_74 : decode cX9_seen 74 = .ok (.aload_n 0, 1) := by decide +kernel
theorem dX9_seen_75 : decode cX9_seen 75 = .ok (.getfield 79, 3) := by decide +kernel
theorem dX9_seen_78 : decode cX9_seen 78 = .ok (.imul, 1) := by decide +kernel
theorem dX9_seen_79 : decode cX9_seen 79 = .ok (.iconst 2, 1) := by decide +kernel
theorem dX9_seen_80 : decode cX9_seen 80 = .ok (.iadd, 1) := by decide +kernel
theorem dX9_seen_81 : decode cX9_seen 81 = .ok (.iload_n 3, 1) := by decide +kernel
theorem dX9_seen_82 : decode cX9_seen 82 = .ok (.iastore, 1) := by decide +kernel
theorem dX9_seen_83 : decode cX9_seen 83 = .ok (.aload_n 0, 1) := by decide +kernel
theorem dX9_seen_84 : decode cX9_seen 84 = .ok (.dup, 1) := by decide +kernel
theorem dX9_seen_85 : decode cX9_seen 85 = .ok (.getfield 79, 3) := by decide +kernel
theorem dX9_seen_88 : decode cX9_seen 88 = .ok (.iconst 1, 1) := by decide +kernel
theorem dX9_seen_89 : decode cX9_seen 89 = .ok (.iadd, 1) := by decide +kernel
theorem dX9_seen_90 : decode cX9_seen 90 = .ok (.putfield 79, 3) := by decide +kernel
theorem dX9_seen_93 : decode cX9_seen 93 = .ok (.aload_n 0, 1) := by decide +kernel
theorem dX9_seen_94 : decode cX9_seen 94 = .ok (.getfield 79, 3) := by decide +kernel
theorem dX9_seen_97 : decode cX9_seen 97 = .ok (.ireturn, 1) := by decide +kernel
theorem dX9_mayKnow_0 : decode cX9_mayKnow 0 = .ok (.iconst 1, 1) := by decide +kernel
theorem dX9_mayKnow_1 : decode cX9_mayKnow 1 = .ok (.istore_n 3, 1) := by decide +kernel
theorem dX9_mayKnow_2 : decode cX9_mayKnow 2 = .ok (.iconst 0, 1) := by decide +kernel
theorem dX9_mayKnow_3 : decode cX9_mayKnow 3 = .ok (.istore 4, 2) := by decide +kernel
theorem dX9_mayKnow_5 : decode cX9_mayKnow 5 = .ok (.iload 4, 2) := by decide +kernel
theorem dX9_mayKnow_7 : decode cX9_mayKnow 7 = .ok (.iconst 3, 1) := by decide +kernel
theorem dX9_mayKnow_8 : decode cX9_mayKnow 8 = .ok (.aload_n 0, 1) := by decide +kernel
theorem dX9_mayKnow_9 : decode cX9_mayKnow 9 = .ok (.getfield 79, 3) := by decide +kernel
theorem dX9_mayKnow_12 : decode cX9_mayKnow 12 = .ok (.imul, 1) := by decide +kernel
theorem dX9_mayKnow_13 : decode cX9_mayKnow 13 = .ok (.if_icmp .ge 96, 3) := by decide +kernel
theorem dX9_mayKnow_16 : decode cX9_mayKnow 16 = .ok (.aload_n 0, 1) := by decide +kernel
theorem dX9_mayKnow_17 : decode cX9_mayKnow 17 = .ok (.getfield 28, 3) := by decide +kernel
theorem dX9_mayKnow_20 : decode cX9_mayKnow 20 = .ok (.iload 4, 2) := by decide +kernel
theorem dX9_mayKnow_22 : decode cX9_mayKnow 22 = .ok (.iconst 1, 1) := by decide +kernel
theorem dX9_mayKnow_23 : decode cX9_mayKnow 23 = .ok (.iadd, 1) := by decide +kernel
theorem dX9_mayKnow_24 : decode cX9_mayKnow 24 = .ok (.iaload, 1) := by decide +kernel
theorem dX9_mayKnow_25 : decode cX9_mayKnow 25 = .ok (.istore 5, 2) := by decide +kernel
theorem dX9_mayKnow_27 : decode cX9_mayKnow 27 = .ok (.iconst 1, 1) := by decide +kernel
theorem dX9_mayKnow_28 : decode cX9_mayKnow 28 = .ok (.iload 5, 2) := by decide +kernel
theorem dX9_mayKnow_30 : decode cX9_mayKnow 30 = .ok (.ishl, 1) := by decide +kernel
theorem dX9_mayKnow_31 : decode cX9_mayKnow 31 = .ok (.iconst 1, 1) := by decide +kernel
theorem dX9_mayKnow_32 : decode cX9_mayKnow 32 = .ok (.isub, 1) := by decide +kernel
theorem dX9_mayKnow_33 : decode cX9_mayKnow 33 = .ok (.istore 6, 2) := by decide +kernel
theorem dX9_mayKnow_35 : decode cX9_mayKnow 35 = .ok (.iload 6, 2) := by decide +kernel
theorem dX9_mayKnow_37 : decode cX9_mayKnow 37 = .ok (.iload_n 2, 1) := by decide +kernel
theorem dX9_mayKnow_38 : decode cX9_mayKnow 38 = .ok (.iconst (-1), 1) := by decide +kernel
theorem dX9_mayKnow_39 : decode cX9_mayKnow 39 = .ok (.ixor, 1) := by decide +kernel
theorem dX9_mayKnow_40 : decode cX9_mayKnow 40 = .ok (.iand, 1) := by decide +kernel
theorem dX9_mayKnow_41 : decode cX9_mayKnow 41 = .ok (.ifCond .ne 33, 3) := by decide +kernel
theorem dX9_mayKnow_44 : decode cX9_mayKnow 44 = .ok (.iload_n 2, 1) := by decide +kernel
theorem dX9_mayKnow_45 : decode cX9_mayKnow 45 = .ok (.iload 5, 2) := by decide +kernel
theorem dX9_mayKnow_47 : decode cX9_mayKnow 47 = .ok (.invokestatic 189, 3) := by decide +kernel
theorem dX9_mayKnow_50 : decode cX9_mayKnow 50 = .ok (.aload_n 0, 1) := by decide +kernel
theorem dX9_mayKnow_51 : decode cX9_mayKnow 51 = .ok (.getfield 28, 3) := by decide +kernel
theorem dX9_mayKnow_54 : decode cX9_mayKnow 54 = .ok (.iload 4, 2) := by decide +kernel
theorem dX9_mayKnow_56 : decode cX9_mayKnow 56 = .ok (.iconst 2, 1) := by decide +kernel
theorem dX9_mayKnow_57 : decode cX9_mayKnow 57 = .ok (.iadd, 1) := by decide +kernel
theorem dX9_mayKnow_58 : decode cX9_mayKnow 58 = .ok (.iaload, 1) := by decide +kernel
theorem dX9_mayKnow_59 : decode cX9_mayKnow 59 = .ok (.ifCond .ne 7, 3) := by decide +kernel
theorem dX9_mayKnow_62 : decode cX9_mayKnow 62 = .ok (.iconst 1, 1) := by decide +kernel
theorem dX9_mayKnow_63 : decode cX9_mayKnow 63 = .ok (.goto 4, 3) := by decide +kernel
theorem dX9_mayKnow_66 : decode cX9_mayKnow 66 = .ok (.iconst 0, 1) := by decide +kernel
theorem dX9_mayKnow_67 : decode cX9_mayKnow 67 = .ok (.if_icmp .ne 7, 3) := by decide +kernel
theorem dX9_mayKnow_70 : decode cX9_mayKnow 70 = .ok (.iconst 1, 1) := by decide +kernel
theorem dX9_mayKnow_71 : decode cX9_mayKnow 71 = .ok (.goto 4, 3) := by decide +kernel
theorem dX9_mayKnow_74 : decode cX9_mayKnow 74 = .ok (.iconst 0, 1) := by decide +kernel
theorem dX9_mayKnow_75 : decode cX9_mayKnow 75 = .ok (.istore 7, 2) := by decide +kernel
theorem dX9_mayKnow_77 : decode cX9_mayKnow 77 = .ok (.iload_n 3, 1) := by decide +kernel
theorem dX9_mayKnow_78 : decode cX9_mayKnow 78 = .ok (.ifCond .eq 23, 3) := by decide +kernel
theorem dX9_mayKnow_81 : decode cX9_mayKnow 81 = .ok (.aload_n 0, 1) := by decide +kernel
theorem dX9_mayKnow_82 : decode cX9_mayKnow 82 = .ok (.getfield 28, 3) := by decide +kernel
theorem dX9_mayKnow_85 : decode cX9_mayKnow 85 = .ok (.iload 4, 2) := by decide +kernel
theorem dX9_mayKnow_87 : decode cX9_mayKnow 87 = .ok (.iaload, 1) := by decide +kernel
theorem dX9_mayKnow_88 : decode cX9_mayKnow 88 = .ok (.iload_n 1, 1) := by decide +kernel
theorem dX9_mayKnow_89 : decode cX9_mayKnow 89 = .ok (.if_icmp .ne 8, 3) := by decide +kernel
theorem dX9_mayKnow_92 : decode cX9_mayKnow 92 = .ok (.iload 7, 2) := by decide +kernel
theorem dX9_mayKnow_94 : decode cX9_mayKnow 94 = .ok (.ifCond .eq 7, 3) := by decide +kernel
theorem dX9_mayKnow_97 : decode cX9_mayKnow 97 = .ok (.iconst 1, 1) := by decide +kernel
theorem dX9_mayKnow_98 : decode cX9_mayKnow 98 = .ok (.goto 4, 3) := by decide +kernel
theorem dX9_mayKnow_101 : decode cX9_mayKnow 101 = .ok (.iconst 0, 1) := by decide +kernel
theorem dX9_mayKnow_102 : decode cX9_mayKnow 102 = .ok (.istore_n 3, 1) := by decide +kernel
theorem dX9_mayKnow_103 : decode cX9_mayKnow 103 = .ok (.iinc 4 3, 3) := by decide +kernel
theorem dX9_mayKnow_106 : decode cX9_mayKnow 106 = .ok (.goto (-101), 3) := by decide +kernel
theorem dX9_mayKnow_109 : decode cX9_mayKnow 109 = .ok (.iload_n 3, 1) := by decide +kernel
theorem dX9_mayKnow_110 : decode cX9_mayKnow 110 = .ok (.ireturn, 1) := by decide +kernel
theorem dX9_may_0 : decode cX9_may 0 = .ok (.aload_n 0, 1) := by decide +kernel
theorem dX9_may_1 : decode cX9_may 1 = .ok (.iload_n 1, 1) := by decide +kernel
theorem dX9_may_2 : decode cX9_may 2 = .ok (.invokevirtual 216, 3) := by decide +kernel
theorem dX9_may_5 : decode cX9_may 5 = .ok (.ifCond .eq 12, 3) := by decide +kernel
theorem dX9_may_8 : decode cX9_may 8 = .ok (.iload_n 2, 1) := by decide +kernel
theorem dX9_may_9 : decode cX9_may 9 = .ok (.iconst 0, 1) := by decide +kernel
theorem dX9_may_10 : decode cX9_may 10 = .ok (.iconst 2, 1) := by decide +kernel
theorem dX9_may_11 : decode cX9_may 11 = .ok (.invokestatic 91, 3) := by decide +kernel
theorem dX9_may_14 : decode cX9_may 14 = .ok (.ifCond .ne 8, 3) := by decide +kernel
theorem dX9_may_17 : decode cX9_may 17 = .ok (.aload_n 0, 1) := by decide +kernel
theorem dX9_may_18 : decode cX9_may 18 = .ok (.invokevirtual 95, 3) := by decide +kernel
theorem dX9_may_21 : decode cX9_may 21 = .ok (.ireturn, 1) := by decide +kernel
theorem dX9_may_22 : decode cX9_may 22 = .ok (.iconst 0, 1) := by decide +kernel
theorem dX9_may_23 : decode cX9_may 23 = .ok (.istore_n 3, 1) := by decide +kernel
theorem dX9_may_24 : decode cX9_may 24 = .ok (.sipush 255, 3) := by decide +kernel
theorem dX9_may_27 : decode cX9_may 27 = .ok (.istore 4, 2) := by decide +kernel
theorem dX9_may_29 : decode cX9_may 29 = .ok (.iconst 0, 1) := by decide +kernel
theorem dX9_may_30 : decode cX9_may 30 = .ok (.istore 5, 2) := by decide +kernel
theorem dX9_may_32 : decode cX9_may 32 = .ok (.iconst 0, 1) := by decide +kernel
theorem dX9_may_33 : decode cX9_may 33 = .ok (.istore 6, 2) := by decide +kernel
theorem dX9_may_35 : decode cX9_may 35 = .ok (.iload 6, 2) := by decide +kernel
theorem dX9_may_37 : decode cX9_may 37 = .ok (.sipush 256, 3) := by decide +kernel
theorem dX9_may_40 : decode cX9_may 40 = .ok (.if_icmp .ge 36, 3) := by decide +kernel
theorem dX9_may_43 : decode cX9_may 43 = .ok (.aload_n 0, 1) := by decide +kernel
theorem dX9_may_44 : decode cX9_may 44 = .ok (.iload_n 1, 1) := by decide +kernel
theorem dX9_may_45 : decode cX9_may 45 = .ok (.iload 6, 2) := by decide +kernel
theorem dX9_may_47 : decode cX9_may 47 = .ok (.invokevirtual 253, 3) := by decide +kernel
theorem dX9_may_50 : decode cX9_may 50 = .ok (.ifCond .eq 20, 3) := by decide +kernel
theorem dX9_may_53 : decode cX9_may 53 = .ok (.iinc 3 1, 3) := by decide +kernel
theorem dX9_may_56 : decode cX9_may 56 = .ok (.iload 4, 2) := by decide +kernel
theorem dX9_may_58 : decode cX9_may 58 = .ok (.iload 6, 2) := by decide +kernel
theorem dX9_may_60 : decode cX9_may 60 = .ok (.iand, 1) := by decide +kernel
theorem dX9_may_61 : decode cX9_may 61 = .ok (.istore 4, 2) := by decide +kernel
theorem dX9_may_63 : decode cX9_may 63 = .ok (.iload 5, 2) := by decide +kernel
theorem dX9_may_65 : decode cX9_may 65 = .ok (.iload 6, 2) := by decide +kernel
theorem dX9_may_67 : decode cX9_may 67 = .ok (.ior, 1) := by decide +kernel
theorem dX9_may_68 : decode cX9_may 68 = .ok (.istore 5, 2) := by decide +kernel
theorem dX9_may_70 : decode cX9_may 70 = .ok (.iinc 6 1, 3) := by decide +kernel
theorem dX9_may_73 : decode cX9_may 73 = .ok (.goto (-38), 3) := by decide +kernel
theorem dX9_may_76 : decode cX9_may 76 = .ok (.iload_n 2, 1) := by decide +kernel
theorem dX9_may_77 : decode cX9_may 77 = .ok (.ifCond .ne 7, 3) := by decide +kernel
theorem dX9_may_80 : decode cX9_may 80 = .ok (.iload_n 3, 1) := by decide +kernel
theorem dX9_may_81 : decode cX9_may 81 = .ok (.goto 23, 3) := by decide +kernel
theorem dX9_may_84 : decode cX9_may 84 = .ok (.iload_n 2, 1) := by decide +kernel
theorem dX9_may_85 : decode cX9_may 85 = .ok (.iconst 2, 1) := by decide +kernel
theorem dX9_may_86 : decode cX9_may 86 = .ok (.if_icmp .ne 8, 3) := by decide +kernel
theorem dX9_may_89 : decode cX9_may 89 = .ok (.iload 5, 2) := by decide +kernel
theorem dX9_may_91 : decode cX9_may 91 = .ok (.goto 13, 3) := by decide +kernel
theorem dX9_may_94 : decode cX9_may 94 = .ok (.iload_n 3, 1) := by decide +kernel
theorem dX9_may_95 : decode cX9_may 95 = .ok (.ifCond .ne 7, 3) := by decide +kernel
theorem dX9_may_98 : decode cX9_may 98 = .ok (.iconst (-1), 1) := by decide +kernel
theorem dX9_may_99 : decode cX9_may 99 = .ok (.goto 5, 3) := by decide +kernel
theorem dX9_may_102 : decode cX9_may 102 = .ok (.iload 4, 2) := by decide +kernel
theorem dX9_may_104 : decode cX9_may 104 = .ok (.ireturn, 1) := by decide +kernel
theorem dX9_note_0 : decode cX9_note 0 = .ok (.iload_n 1, 1) := by decide +kernel
theorem dX9_note_1 : decode cX9_note 1 = .ok (.invokestatic 219, 3) := by decide +kernel
theorem dX9_note_4 : decode cX9_note 4 = .ok (.ifCond .eq 34, 3) := by decide +kernel
theorem dX9_note_7 : decode cX9_note 7 = .ok (.iload_n 2, 1) := by decide +kernel
theorem dX9_note_8 : decode cX9_note 8 = .ok (.iconst 1, 1) := by decide +kernel
theorem dX9_note_9 : decode cX9_note 9 = .ok (.bipush 12, 2) := by decide +kernel
theorem dX9_note_11 : decode cX9_note 11 = .ok (.invokestatic 91, 3) := by decide +kernel
theorem dX9_note_14 : decode cX9_note 14 = .ok (.ifCond .eq 24, 3) := by decide +kernel
theorem dX9_note_17 : decode cX9_note 17 = .ok (.iload_n 3, 1) := by decide +kernel
theorem dX9_note_18 : decode cX9_note 18 = .ok (.iconst 0, 1) := by decide +kernel
theorem dX9_note_19 : decode cX9_note 19 = .ok (.bipush 23, 2) := by decide +kernel
theorem dX9_note_21 : decode cX9_note 21 = .ok (.invokestatic 91, 3) := by decide +kernel
theorem dX9_note_24 : decode cX9_note 24 = .ok (.ifCond .eq 14, 3) := by decide +kernel
theorem dX9_note_27 : decode cX9_note 27 = .ok (.iload 4, 2) := by decide +kernel
theorem dX9_note_29 : decode cX9_note 29 = .ok (.iconst 0, 1) := by decide +kernel
theorem dX9_note_30 : decode cX9_note 30 = .ok (.bipush 9, 2) := by decide +kernel
theorem dX9_note_32 : decode cX9_note 32 = .ok (.invokestatic 91, 3) := by decide +kernel
theorem dX9_note_35 : decode cX9_note 35 = .ok (.ifCond .ne 8, 3) := by decide +kernel
theorem dX9_note_38 : decode cX9_note 38 = .ok (.aload_n 0, 1) := by decide +kernel
theorem dX9_note_39 : decode cX9_note 39 = .ok (.invokevirtual 95, 3) := by decide +kernel
theorem dX9_note_42 : decode cX9_note 42 = .ok (.ireturn, 1) := by decide +kernel
theorem dX9_note_43 : decode cX9_note 43 = .ok (.aload_n 0, 1) := by decide +kernel
theorem dX9_note_44 : decode cX9_note 44 = .ok (.getfield 82, 3) := by decide +kernel
theorem dX9_note_47 : decode cX9_note 47 = .ok (.bipush 6, 2) := by decide +kernel
theorem dX9_note_49 : decode cX9_note 49 = .ok (.if_icmp .ne 8, 3) := by decide +kernel
theorem dX9_note_52 : decode cX9_note 52 = .ok (.aload_n 0, 1) := by decide +kernel
theorem dX9_note_53 : decode cX9_note 53 = .ok (.invokevirtual 99, 3) := by decide +kernel
theorem dX9_note_56 : decode cX9_note 56 = .ok (.ireturn, 1) := by decide +kernel
theorem dX9_note_57 : decode cX9_note 57 = .ok (.aload_n 0, 1) := by decide +kernel
theorem dX9_note_58 : decode cX9_note 58 = .ok (.getfield 31, 3) := by decide +kernel
theorem dX9_note_61 : decode cX9_note 61 = .ok (.iconst 4, 1) := by decide +kernel
theorem dX9_note_62 : decode cX9_note 62 = .ok (.aload_n 0, 1) := by decide +kernel
theorem dX9_note_63 : decode cX9_note 63 = .ok (.getfield 82, 3) := by decide +kernel
theorem dX9_note_66 : decode cX9_note 66 = .ok (.imul, 1) := by decide +kernel
theorem dX9_note_67 : decode cX9_note 67 = .ok (.iload_n 1, 1) := by decide +kernel
theorem dX9_note_68 : decode cX9_note 68 = .ok (.iastore, 1) := by decide +kernel
theorem dX9_note_69 : decode cX9_note 69 = .ok (.aload_n 0, 1) := by decide +kernel
theorem dX9_note_70 : decode cX9_note 70 = .ok (.getfield 31, 3) := by decide +kernel
theorem dX9_note_73 : decode cX9_note 73 = .ok (.iconst 4, 1) := by decide +kernel
theorem dX9_note_74 : decode cX9_note 74 = .ok (.aload_n 0, 1) := by decide +kernel
theorem dX9_note_75 : decode cX9_note 75 = .ok (.getfield 82, 3) := by decide +kernel
theorem dX9_note_78 : decode cX9_note 78 = .ok (.imul, 1) := by decide +kernel
theorem dX9_note_79 : decode cX9_note 79 = .ok (.iconst 1, 1) := by decide +kernel
theorem dX9_note_80 : decode cX9_note 80 = .ok (.iadd, 1) := by decide +kernel
theorem dX9_note_81 : decode cX9_note 81 = .ok (.iload_n 2, 1) := by decide +kernel
theorem dX9_note_82 : decode cX9_note 82 = .ok (.iastore, 1) := by decide +kernel
theorem dX9_note_83 : decode cX9_note 83 = .ok (.aload_n 0, 1) := by decide +kernel
theorem dX9_note_84 : decode cX9_note 84 = .ok (.getfield 31, 3) := by decide +kernel
theorem dX9_note_87 : decode cX9_note 87 = .ok (.iconst 4, 1) := by decide +kernel
theorem dX9_note_88 : decode cX9_note 88 = .ok (.aload_n 0, 1) := by decide +kernel
theorem dX9_note_89 : decode cX9_note 89 = .ok (.getfield 82, 3) := by decide +kernel
theorem dX9_note_92 : decode cX9_note 92 = .ok (.imul, 1) := by decide +kernel
theorem dX9_note_93 : decode cX9_note 93 = .ok (.iconst 2, 1) := by decide +kernel
theorem dX9_note_94 : decode cX9_note 94 = .ok (.iadd, 1) := by decide +kernel
theorem dX9_note_95 : decode cX9_note 95 = .ok (.iload_n 3, 1) := by decide +kernel
theorem dX9_note_96 : decode cX9_note 96 = .ok (.iastore, 1) := by decide +kernel
theorem dX9_note_97 : decode cX9_note 97 = .ok (.aload_n 0, 1) := by decide +kernel
theorem dX9_note_98 : decode cX9_note 98 = .ok (.getfield 31, 3) := by decide +kernel
theorem dX9_note_101 : decode cX9_note 101 = .ok (.iconst 4, 1) := by decide +kernel
theorem dX9_note_102 : decode cX9_note 102 = .ok (.aload_n 0, 1) := by decide +kernel
theorem dX9_note_103 : decode cX9_note 103 = .ok (.getfield 82, 3) := by decide +kernel
theorem dX9_note_106 : decode cX9_note 106 = .ok (.imul, 1) := by decide +kernel
theorem dX9_note_107 : decode cX9_note 107 = .ok (.iconst 3, 1) := by decide +kernel
theorem dX9_note_108 : decode cX9_note 108 = .ok (.iadd, 1) := by decide +kernel
theorem dX9_note_109 : decode cX9_note 109 = .ok (.iload 4, 2) := by decide +kernel
theorem dX9_note_111 : decode cX9_note 111 = .ok (.iastore, 1) := by decide +kernel
theorem dX9_note_112 : decode cX9_note 112 = .ok (.aload_n 0, 1) := by decide +kernel
theorem dX9_note_113 : decode cX9_note 113 = .ok (.dup, 1) := by decide +kernel
theorem dX9_note_114 : decode cX9_note 114 = .ok (.getfield 82, 3) := by decide +kernel
theorem dX9_note_117 : decode cX9_note 117 = .ok (.iconst 1, 1) := by decide +kernel
theorem dX9_note_118 : decode cX9_note 118 = .ok (.iadd, 1) := by decide +kernel
theorem dX9_note_119 : decode cX9_note 119 = .ok (.putfield 82, 3) := by decide +kernel
theorem dX9_note_122 : decode cX9_note 122 = .ok (.aload_n 0, 1) := by decide +kernel
theorem dX9_note_123 : decode cX9_note 123 = .ok (.getfield 82, 3) := by decide +kernel
theorem dX9_note_126 : decode cX9_note 126 = .ok (.ireturn, 1) := by decide +kernel
theorem dX9_mark_0 : decode cX9_mark 0 = .ok (.aload_n 0, 1) := by decide +kernel
theorem dX9_mark_1 : decode cX9_mark 1 = .ok (.iload_n 1, 1) := by decide +kernel
theorem dX9_mark_2 : decode cX9_mark 2 = .ok (.invokevirtual 216, 3) := by decide +kernel
theorem dX9_mark_5 : decode cX9_mark 5 = .ok (.ifCond .eq 34, 3) := by decide +kernel
theorem dX9_mark_8 : decode cX9_mark 8 = .ok (.iload_n 2, 1) := by decide +kernel
theorem dX9_mark_9 : decode cX9_mark 9 = .ok (.iconst (-1), 1) := by decide +kernel
theorem dX9_mark_10 : decode cX9_mark 10 = .ok (.bipush 8, 2) := by decide +kernel
theorem dX9_mark_12 : decode cX9_mark 12 = .ok (.invokestatic 91, 3) := by decide +kernel
theorem dX9_mark_15 : decode cX9_mark 15 = .ok (.ifCond .eq 24, 3) := by decide +kernel
theorem dX9_mark_18 : decode cX9_mark 18 = .ok (.iload_n 3, 1) := by decide +kernel
theorem dX9_mark_19 : decode cX9_mark 19 = .ok (.iconst 0, 1) := by decide +kernel
theorem dX9_mark_20 : decode cX9_mark 20 = .ok (.bipush 23, 2) := by decide +kernel
theorem dX9_mark_22 : decode cX9_mark 22 = .ok (.invokestatic 91, 3) := by decide +kernel
theorem dX9_mark_25 : decode cX9_mark 25 = .ok (.ifCond .eq 14, 3) := by decide +kernel
theorem dX9_mark_28 : decode cX9_mark 28 = .ok (.iload 4, 2) := by decide +kernel
theorem dX9_mark_30 : decode cX9_mark 30 = .ok (.iconst 0, 1) := by decide +kernel
theorem dX9_mark_31 : decode cX9_mark 31 = .ok (.bipush 9, 2) := by decide +kernel
theorem dX9_mark_33 : decode cX9_mark 33 = .ok (.invokestatic 91, 3) := by decide +kernel
theorem dX9_mark_36 : decode cX9_mark 36 = .ok (.ifCond .ne 8, 3) := by decide +kernel
theorem dX9_mark_39 : decode cX9_mark 39 = .ok (.aload_n 0, 1) := by decide +kernel
theorem dX9_mark_40 : decode cX9_mark 40 = .ok (.invokevirtual 95, 3) := by decide +kernel
theorem dX9_mark_43 : decode cX9_mark 43 = .ok (.ireturn, 1) := by decide +kernel
theorem dX9_mark_44 : decode cX9_mark 44 = .ok (.aload_n 0, 1) := by decide +kernel
theorem dX9_mark_45 : decode cX9_mark 45 = .ok (.getfield 85, 3) := by decide +kernel
theorem dX9_mark_48 : decode cX9_mark 48 = .ok (.bipush 6, 2) := by decide +kernel
theorem dX9_mark_50 : decode cX9_mark 50 = .ok (.if_icmp .ne 8, 3) := by decide +kernel
theorem dX9_mark_53 : decode cX9_mark 53 = .ok (.aload_n 0, 1) := by decide +kernel
theorem dX9_mark_54 : decode cX9_mark 54 = .ok (.invokevirtual 99, 3) := by decide +kernel
theorem dX9_mark_57 : decode cX9_mark 57 = .ok (.ireturn, 1) := by decide +kernel
theorem dX9_mark_58 : decode cX9_mark 58 = .ok (.aload_n 0, 1) := by decide +kernel
theorem dX9_mark_59 : decode cX9_mark 59 = .ok (.getfield 34, 3) := by decide +kernel
theorem dX9_mark_62 : decode cX9_mark 62 = .ok (.iconst 4, 1) := by decide +kernel
theorem dX9_mark_63 : decode cX9_mark 63 = .ok (.aload_n 0, 1) := by decide +kernel
theorem dX9_mark_64 : decode cX9_mark 64 = .ok (.getfield 85, 3) := by decide +kernel
theorem dX9_mark_67 : decode cX9_mark 67 = .ok (.imul, 1) := by decide +kernel
theorem dX9_mark_68 : decode cX9_mark 68 = .ok (.iload_n 1, 1) := by decide +kernel
theorem dX9_mark_69 : decode cX9_mark 69 = .ok (.iastore, 1) := by decide +kernel
theorem dX9_mark_70 : decode cX9_mark 70 = .ok (.aload_n 0, 1) := by decide +kernel
theorem dX9_mark_71 : decode cX9_mark 71 = .ok (.getfield 34, 3) := by decide +kernel
theorem dX9_mark_74 : decode cX9_mark 74 = .ok (.iconst 4, 1) := by decide +kernel
theorem dX9_mark_75 : decode cX9_mark 75 = .ok (.aload_n 0, 1) := by decide +kernel
theorem dX9_mark_76 : decode cX9_mark 76 = .ok (.getfield 85, 3) := by decide +kernel
theorem dX9_mark_79 : decode cX9_mark 79 = .ok (.imul, 1) := by decide +kernel
theorem dX9_mark_80 : decode cX9_mark 80 = .ok (.iconst 1, 1) := by decide +kernel
theorem dX9_mark_81 : decode cX9_mark 81 = .ok (.iadd, 1) := by decide +kernel
theorem dX9_mark_82 : decode cX9_mark 82 = .ok (.iload_n 2, 1) := by decide +kernel
theorem dX9_mark_83 : decode cX9_mark 83 = .ok (.iastore, 1) := by decide +kernel
theorem dX9_mark_84 : decode cX9_mark 84 = .ok (.aload_n 0, 1) := by decide +kernel
theorem dX9_mark_85 : decode cX9_mark 85 = .ok (.getfield 34, 3) := by decide +kernel
theorem dX9_mark_88 : decode cX9_mark 88 = .ok (.iconst 4, 1) := by decide +kernel
theorem dX9_mark_89 : decode cX9_mark 89 = .ok (.aload_n 0, 1) := by decide +kernel
theorem dX9_mark_90 : decode cX9_mark 90 = .ok (.getfield 85, 3) := by decide +kernel
theorem dX9_mark_93 : decode cX9_mark 93 = .ok (.imul, 1) := by decide +kernel
theorem dX9_mark_94 : decode cX9_mark 94 = .ok (.iconst 2, 1) := by decide +kernel
theorem dX9_mark_95 : decode cX9_mark 95 = .ok (.iadd, 1) := by decide +kernel
theorem dX9_mark_96 : decode cX9_mark 96 = .ok (.iload_n 3, 1) := by decide +kernel
theorem dX9_mark_97 : decode cX9_mark 97 = .ok (.iastore, 1) := by decide +kernel
theorem dX9_mark_98 : decode cX9_mark 98 = .ok (.aload_n 0, 1) := by decide +kernel
theorem dX9_mark_99 : decode cX9_mark 99 = .ok (.getfield 34, 3) := by decide +kernel
theorem dX9_mark_102 : decode cX9_mark 102 = .ok (.iconst 4, 1) := by decide +kernel
theorem dX9_mark_103 : decode cX9_mark 103 = .ok (.aload_n 0, 1) := by decide +kernel
theorem dX9_mark_104 : decode cX9_mark 104 = .ok (.getfield 85, 3) := by decide +kernel
theorem dX9_mark_107 : decode cX9_mark 107 = .ok (.imul, 1) := by decide +kernel
theorem dX9_mark_108 : decode cX9_mark 108 = .ok (.iconst 3, 1) := by decide +kernel
theorem dX9_mark_109 : decode cX9_mark 109 = .ok (.iadd, 1) := by decide +kernel
theorem dX9_mark_110 : decode cX9_mark 110 = .ok (.iload 4, 2) := by decide +kernel
theorem dX9_mark_112 : decode cX9_mark 112 = .ok (.iastore, 1) := by decide +kernel
theorem dX9_mark_113 : decode cX9_mark 113 = .ok (.aload_n 0, 1) := by decide +kernel
theorem dX9_mark_114 : decode cX9_mark 114 = .ok (.dup, 1) := by decide +kernel
theorem dX9_mark_115 : decode cX9_mark 115 = .ok (.getfield 85, 3) := by decide +kernel
theorem dX9_mark_118 : decode cX9_mark 118 = .ok (.iconst 1, 1) := by decide +kernel
theorem dX9_mark_119 : decode cX9_mark 119 = .ok (.iadd, 1) := by decide +kernel
theorem dX9_mark_120 : decode cX9_mark 120 = .ok (.putfield 85, 3) := by decide +kernel
theorem dX9_mark_123 : decode cX9_mark 123 = .ok (.aload_n 0, 1) := by decide +kernel
theorem dX9_mark_124 : decode cX9_mark 124 = .ok (.getfield 85, 3) := by decide +kernel
theorem dX9_mark_127 : decode cX9_mark 127 = .ok (.ireturn, 1) := by decide +kernel
theorem dX9_forget_0 : decode cX9_forget 0 = .ok (.iload_n 1, 1) := by decide +kernel
theorem dX9_forget_1 : decode cX9_forget 1 = .ok (.iconst 0, 1) := by decide +kernel
theorem dX9_forget_2 : decode cX9_forget 2 = .ok (.iconst 2, 1) := by decide +kernel
theorem dX9_forget_3 : decode cX9_forget 3 = .ok (.invokestatic 91, 3) := by decide +kernel
theorem dX9_forget_6 : decode cX9_forget 6 = .ok (.ifCond .ne 8, 3) := by decide +kernel
theorem dX9_forget_9 : decode cX9_forget 9 = .ok (.aload_n 0, 1) := by decide +kernel
theorem dX9_forget_10 : decode cX9_forget 10 = .ok (.invokevirtual 95, 3) := by decide +kernel
theorem dX9_forget_13 : decode cX9_forget 13 = .ok (.ireturn, 1) := by decide +kernel
theorem dX9_forget_14 : decode cX9_forget 14 = .ok (.iload_n 1, 1) := by decide +kernel
theorem dX9_forget_15 : decode cX9_forget 15 = .ok (.ifCond .ne 10, 3) := by decide +kernel
theorem dX9_forget_18 : decode cX9_forget 18 = .ok (.aload_n 0, 1) := by decide +kernel
theorem dX9_forget_19 : decode cX9_forget 19 = .ok (.getfield 79, 3) := by decide +kernel
theorem dX9_forget_22 : decode cX9_forget 22 = .ok (.goto 19, 3) := by decide +kernel
theorem dX9_forget_25 : decode cX9_forget 25 = .ok (.iload_n 1, 1) := by decide +kernel
theorem dX9_forget_26 : decode cX9_forget 26 = .ok (.iconst 1, 1) := by decide +kernel
theorem dX9_forget_27 : decode cX9_forget 27 = .ok (.if_icmp .ne 10, 3) := by decide +kernel
theorem dX9_forget_30 : decode cX9_forget 30 = .ok (.aload_n 0, 1) := by decide +kernel
theorem dX9_forget_31 : decode cX9_forget 31 = .ok (.getfield 82, 3) := by decide +kernel
theorem dX9_forget_34 : decode cX9_forget 34 = .ok (.goto 7, 3) := by decide +kernel
theorem dX9_forget_37 : decode cX9_forget 37 = .ok (.aload_n 0, 1) := by decide +kernel
theorem dX9_forget_38 : decode cX9_forget 38 = .ok (.getfield 85, 3) := by decide +kernel
theorem dX9_forget_41 : decode cX9_forget 41 = .ok (.istore_n 2, 1) := by decide +kernel
theorem dX9_forget_42 : decode cX9_forget 42 = .ok (.aload_n 0, 1) := by decide +kernel
theorem dX9_forget_43 : decode cX9_forget 43 = .ok (.iload_n 1, 1) := by decide +kernel
theorem dX9_forget_44 : decode cX9_forget 44 = .ok (.ifCond .ne 7, 3) := by decide +kernel
theorem dX9_forget_47 : decode cX9_forget 47 = .ok (.iconst 0, 1) := by decide +kernel
theorem dX9_forget_48 : decode cX9_forget 48 = .ok (.goto 7, 3) := by decide +kernel
theorem dX9_forget_51 : decode cX9_forget 51 = .ok (.aload_n 0, 1) := by decide +kernel
theorem dX9_forget_52 : decode cX9_forget 52 = .ok (.getfield 79, 3) := by decide +kernel
theorem dX9_forget_55 : decode cX9_forget 55 = .ok (.putfield 79, 3) := by decide +kernel
theorem dX9_forget_58 : decode cX9_forget 58 = .ok (.aload_n 0, 1) := by decide +kernel
theorem dX9_forget_59 : decode cX9_forget 59 = .ok (.iload_n 1, 1) := by decide +kernel
theorem dX9_forget_60 : decode cX9_forget 60 = .ok (.iconst 1, 1) := by decide +kernel
theorem dX9_forget_61 : decode cX9_forget 61 = .ok (.if_icmp .ne 7, 3) := by decide +kernel
theorem dX9_forget_64 : decode cX9_forget 64 = .ok (.iconst 0, 1) := by decide +kernel
theorem dX9_forget_65 : decode cX9_forget 65 = .ok (.goto 7, 3) := by decide +kernel
theorem dX9_forget_68 : decode cX9_forget 68 = .ok (.aload_n 0, 1) := by decide +kernel
theorem dX9_forget_69 : decode cX9_forget 69 = .ok (.getfield 82, 3) := by decide +kernel
theorem dX9_forget_72 : decode cX9_forget 72 = .ok (.putfield 82, 3) := by decide +kernel
theorem dX9_forget_75 : decode cX9_forget 75 = .ok (.aload_n 0, 1) := by decide +kernel
theorem dX9_forget_76 : decode cX9_forget 76 = .ok (.iload_n 1, 1) := by decide +kernel
theorem dX9_forget_77 : decode cX9_forget 77 = .ok (.iconst 2, 1) := by decide +kernel
theorem dX9_forget_78 : decode cX9_forget 78 = .ok (.if_icmp .ne 7, 3) := by decide +kernel
theorem dX9_forget_81 : decode cX9_forget 81 = .ok (.iconst 0, 1) := by decide +kernel
theorem dX9_forget_82 : decode cX9_forget 82 = .ok (.goto 7, 3) := by decide +kernel
theorem dX9_forget_85 : decode cX9_forget 85 = .ok (.aload_n 0, 1) := by decide +kernel
theorem dX9_forget_86 : decode cX9_forget 86 = .ok (.getfield 85, 3) := by decide +kernel
theorem dX9_forget_89 : decode cX9_forget 89 = .ok (.putfield 85, 3) := by decide +kernel
theorem dX9_forget_92 : decode cX9_forget 92 = .ok (.iload_n 2, 1) := by decide +kernel
theorem dX9_forget_93 : decode cX9_forget 93 = .ok (.ireturn, 1) := by decide +kernel
theorem dX9_stepKinds_0 : decode cX9_stepKinds 0 = .ok (.iconst 0, 1) := by decide +kernel
theorem dX9_stepKinds_1 : decode cX9_stepKinds 1 = .ok (.istore_n 2, 1) := by decide +kernel
theorem dX9_stepKinds_2 : decode cX9_stepKinds 2 = .ok (.iconst 0, 1) := by decide +kernel
theorem dX9_stepKinds_3 : decode cX9_stepKinds 3 = .ok (.istore_n 3, 1) := by decide +kernel
theorem dX9_stepKinds_4 : decode cX9_stepKinds 4 = .ok (.iload_n 3, 1) := by decide +kernel
theorem dX9_stepKinds_5 : decode cX9_stepKinds 5 = .ok (.iconst 5, 1) := by decide +kernel
theorem dX9_stepKinds_6 : decode cX9_stepKinds 6 = .ok (.if_icmp .gt 116, 3) := by decide +kernel
theorem dX9_stepKinds_9 : decode cX9_stepKinds 9 = .ok (.iconst 1, 1) := by decide +kernel
theorem dX9_stepKinds_10 : decode cX9_stepKinds 10 = .ok (.istore 4, 2) := by decide +kernel
theorem dX9_stepKinds_12 : decode cX9_stepKinds 12 = .ok (.iconst 0, 1) := by decide +kernel
theorem dX9_stepKinds_13 : decode cX9_stepKinds 13 = .ok (.istore 5, 2) := by decide +kernel
theorem dX9_stepKinds_15 : decode cX9_stepKinds 15 = .ok (.iload 5, 2) := by decide +kernel
theorem dX9_stepKinds_17 : decode cX9_stepKinds 17 = .ok (.iconst 4, 1) := by decide +kernel
theorem dX9_stepKinds_18 : decode cX9_stepKinds 18 = .ok (.aload_n 0, 1) := by decide +kernel
theorem dX9_stepKinds_19 : decode cX9_stepKinds 19 = .ok (.getfield 82, 3) := by decide +kernel
theorem dX9_stepKinds_22 : decode cX9_stepKinds 22 = .ok (.imul, 1) := by decide +kernel
theorem dX9_stepKinds_23 : decode cX9_stepKinds 23 = .ok (.if_icmp .ge 78, 3) := by decide +kernel
theorem dX9_stepKinds_26 : decode cX9_stepKinds 26 = .ok (.iload_n 3, 1) := by decide +kernel
theorem dX9_stepKinds_27 : decode cX9_stepKinds 27 = .ok (.aload_n 0, 1) := by decide +kernel
theorem dX9_stepKinds_28 : decode cX9_stepKinds 28 = .ok (.getfield 31, 3) := by decide +kernel
theorem dX9_stepKinds_31 : decode cX9_stepKinds 31 = .ok (.iload 5, 2) := by decide +kernel
theorem dX9_stepKinds_33 : decode cX9_stepKinds 33 = .ok (.iconst 1, 1) := by decide +kernel
theorem dX9_stepKinds_34 : decode cX9_stepKinds 34 = .ok (.iadd, 1) := by decide +kernel
theorem dX9_stepKinds_35 : decode cX9_stepKinds 35 = .ok (.iaload, 1) := by decide +kernel
theorem dX9_stepKinds_36 : decode cX9_stepKinds 36 = .ok (.aload_n 0, 1) := by decide +kernel
theorem dX9_stepKinds_37 : decode cX9_stepKinds 37 = .ok (.getfield 31, 3) := by decide +kernel
theorem dX9_stepKinds_40 : decode cX9_stepKinds 40 = .ok (.iload 5, 2) := by decide +kernel
theorem dX9_stepKinds_42 : decode cX9_stepKinds 42 = .ok (.iconst 2, 1) := by decide +kernel
theorem dX9_stepKinds_43 : decode cX9_stepKinds 43 = .ok (.iadd, 1) := by decide +kernel
theorem dX9_stepKinds_44 : decode cX9_stepKinds 44 = .ok (.iaload, 1) := by decide +kernel
theorem dX9_stepKinds_45 : decode cX9_stepKinds 45 = .ok (.invokestatic 182, 3) := by decide +kernel
theorem dX9_stepKinds_48 : decode cX9_stepKinds 48 = .ok (.aload_n 0, 1) := by decide +kernel
theorem dX9_stepKinds_49 : decode cX9_stepKinds 49 = .ok (.getfield 31, 3) := by decide +kernel
theorem dX9_stepKinds_52 : decode cX9_stepKinds 52 = .ok (.iload 5, 2) := by decide +kernel
theorem dX9_stepKinds_54 : decode cX9_stepKinds 54 = .ok (.iconst 3, 1) := by decide +kernel
theorem dX9_stepKinds_55 : decode cX9_stepKinds 55 = .ok (.iadd, 1) := by decide +kernel
theorem dX9_stepKinds_56 : decode cX9_stepKinds 56 = .ok (.iaload, 1) := by decide +kernel
theorem dX9_stepKinds_57 : decode cX9_stepKinds 57 = .ok (.if_icmp .ne 7, 3) := by decide +kernel
theorem dX9_stepKinds_60 : decode cX9_stepKinds 60 = .ok (.iconst 1, 1) := by decide +kernel
theorem dX9_stepKinds_61 : decode cX9_stepKinds 61 = .ok (.goto 4, 3) := by decide +kernel
theorem dX9_stepKinds_64 : decode cX9_stepKinds 64 = .ok (.iconst 0, 1) := by decide +kernel
theorem dX9_stepKinds_65 : decode cX9_stepKinds 65 = .ok (.istore 6, 2) := by decide +kernel
theorem dX9_stepKinds_67 : decode cX9_stepKinds 67 = .ok (.iload 4, 2) := by decide +kernel
theorem dX9_stepKinds_69 : decode cX9_stepKinds 69 = .ok (.ifCond .eq 23, 3) := by decide +kernel
theorem dX9_stepKinds_72 : decode cX9_stepKinds 72 = .ok (.aload_n 0, 1) := by decide +kernel
theorem dX9_stepKinds_73 : decode cX9_stepKinds 73 = .ok (.getfield 31, 3) := by decide +kernel
theorem dX9_stepKinds_76 : decode cX9_stepKinds 76 = .ok (.iload 5, 2) := by decide +kernel
theorem dX9_stepKinds_78 : decode cX9_stepKinds 78 = .ok (.iaload, 1) := by decide +kernel
theorem dX9_stepKinds_79 : decode cX9_stepKinds 79 = .ok (.iload_n 1, 1) := by decide +kernel
theorem dX9_stepKinds_80 : decode cX9_stepKinds 80 = .ok (.if_icmp .ne 8, 3) := by decide +kernel
theorem dX9_stepKinds_83 : decode cX9_stepKinds 83 = .ok (.iload 6, 2) := by decide +kernel
theorem dX9_stepKinds_85 : decode cX9_stepKinds 85 = .ok (.ifCond .eq 7, 3) := by decide +kernel
theorem dX9_stepKinds_88 : decode cX9_stepKinds 88 = .ok (.iconst 1, 1) := by decide +kernel
theorem dX9_stepKinds_89 : decode cX9_stepKinds 89 = .ok (.goto 4, 3) := by decide +kernel
theorem dX9_stepKinds_92 : decode cX9_stepKinds 92 = .ok (.iconst 0, 1) := by decide +kernel
theorem dX9_stepKinds_93 : decode cX9_stepKinds 93 = .ok (.istore 4, 2) := by decide +kernel
theorem dX9_stepKinds_95 : decode cX9_stepKinds 95 = .ok (.iinc 5 4, 3) := by decide +kernel
theorem dX9_stepKinds_98 : decode cX9_stepKinds 98 = .ok (.goto (-83), 3) := by decide +kernel
theorem dX9_stepKinds_101 : decode cX9_stepKinds 101 = .ok (.iload_n 2, 1) := by decide +kernel
theorem dX9_stepKinds_102 : decode cX9_stepKinds 102 = .ok (.iload 4, 2) := by decide +kernel
theorem dX9_stepKinds_104 : decode cX9_stepKinds 104 = .ok (.ifCond .eq 9, 3) := by decide +kernel
theorem dX9_stepKinds_107 : decode cX9_stepKinds 107 = .ok (.iconst 1, 1) := by decide +kernel
theorem dX9_stepKinds_108 : decode cX9_stepKinds 108 = .ok (.iload_n 3, 1) := by decide +kernel
theorem dX9_stepKinds_109 : decode cX9_stepKinds 109 = .ok (.ishl, 1) := by decide +kernel
theorem dX9_stepKinds_110 : decode cX9_stepKinds 110 = .ok (.goto 4, 3) := by decide +kernel
theorem dX9_stepKinds_113 : decode cX9_stepKinds 113 = .ok (.iconst 0, 1) := by decide +kernel
theorem dX9_stepKinds_114 : decode cX9_stepKinds 114 = .ok (.ior, 1) := by decide +kernel
theorem dX9_stepKinds_115 : decode cX9_stepKinds 115 = .ok (.istore_n 2, 1) := by decide +kernel
theorem dX9_stepKinds_116 : decode cX9_stepKinds 116 = .ok (.iinc 3 1, 3) := by decide +kernel
theorem dX9_stepKinds_119 : decode cX9_stepKinds 119 = .ok (.goto (-115), 3) := by decide +kernel
theorem dX9_stepKinds_122 : decode cX9_stepKinds 122 = .ok (.iload_n 2, 1) := by decide +kernel
theorem dX9_stepKinds_123 : decode cX9_stepKinds 123 = .ok (.ireturn, 1) := by decide +kernel
theorem dX9_peopleKinds_0 : decode cX9_peopleKinds 0 = .ok (.iconst 0, 1) := by decide +kernel
theorem dX9_peopleKinds_1 : decode cX9_peopleKinds 1 = .ok (.istore_n 2, 1) := by decide +kernel
theorem dX9_peopleKinds_2 : decode cX9_peopleKinds 2 = .ok (.iconst 0, 1) := by decide +kernel
theorem dX9_peopleKinds_3 : decode cX9_peopleKinds 3 = .ok (.istore_n 3, 1) := by decide +kernel
theorem dX9_peopleKinds_4 : decode cX9_peopleKinds 4 = .ok (.iload_n 3, 1) := by decide +kernel
theorem dX9_peopleKinds_5 : decode cX9_peopleKinds 5 = .ok (.iconst 5, 1) := by decide +kernel
theorem dX9_peopleKinds_6 : decode cX9_peopleKinds 6 = .ok (.if_icmp .gt 116, 3) := by decide +kernel
theorem dX9_peopleKinds_9 : decode cX9_peopleKinds 9 = .ok (.iconst 1, 1) := by decide +kernel
theorem dX9_peopleKinds_10 : decode cX9_peopleKinds 10 = .ok (.istore 4, 2) := by decide +kernel
theorem dX9_peopleKinds_12 : decode cX9_peopleKinds 12 = .ok (.iconst 0, 1) := by decide +kernel
theorem dX9_peopleKinds_13 : decode cX9_peopleKinds 13 = .ok (.istore 5, 2) := by decide +kernel
theorem dX9_peopleKinds_15 : decode cX9_peopleKinds 15 = .ok (.iload 5, 2) := by decide +kernel
theorem dX9_peopleKinds_17 : decode cX9_peopleKinds 17 = .ok (.iconst 4, 1) := by decide +kernel
theorem dX9_peopleKinds_18 : decode cX9_peopleKinds 18 = .ok (.aload_n 0, 1) := by decide +kernel
theorem dX9_peopleKinds_19 : decode cX9_peopleKinds 19 = .ok (.getfield 85, 3) := by decide +kernel
theorem dX9_peopleKinds_22 : decode cX9_peopleKinds 22 = .ok (.imul, 1) := by decide +kernel
theorem dX9_peopleKinds_23 : decode cX9_peopleKinds 23 = .ok (.if_icmp .ge 78, 3) := by decide +kernel
theorem dX9_peopleKinds_26 : decode cX9_peopleKinds 26 = .ok (.iload_n 3, 1) := by decide +kernel
theorem dX9_peopleKinds_27 : decode cX9_peopleKinds 27 = .ok (.aload_n 0, 1) := by decide +kernel
theorem dX9_peopleKinds_28 : decode cX9_peopleKinds 28 = .ok (.getfield 34, 3) := by decide +kernel
theorem dX9_peopleKinds_31 : decode cX9_peopleKinds 31 = .ok (.iload 5, 2) := by decide +kernel
theorem dX9_peopleKinds_33 : decode cX9_peopleKinds 33 = .ok (.iconst 2, 1) := by decide +kernel
theorem dX9_peopleKinds_34 : decode cX9_peopleKinds 34 = .ok (.iadd, 1) := by decide +kernel
theorem dX9_peopleKinds_35 : decode cX9_peopleKinds 35 = .ok (.iaload, 1) := by decide +kernel
theorem dX9_peopleKinds_36 : decode cX9_peopleKinds 36 = .ok (.aload_n 0, 1) := by decide +kernel
theorem dX9_peopleKinds_37 : decode cX9_peopleKinds 37 = .ok (.getfield 34, 3) := by decide +kernel
theorem dX9_peopleKinds_40 : decode cX9_peopleKinds 40 = .ok (.iload 5, 2) := by decide +kernel
theorem dX9_peopleKinds_42 : decode cX9_peopleKinds 42 = .ok (.iconst 1, 1) := by decide +kernel
theorem dX9_peopleKinds_43 : decode cX9_peopleKinds 43 = .ok (.iadd, 1) := by decide +kernel
theorem dX9_peopleKinds_44 : decode cX9_peopleKinds 44 = .ok (.iaload, 1) := by decide +kernel
theorem dX9_peopleKinds_45 : decode cX9_peopleKinds 45 = .ok (.invokestatic 186, 3) := by decide +kernel
theorem dX9_peopleKinds_48 : decode cX9_peopleKinds 48 = .ok (.aload_n 0, 1) := by decide +kernel
theorem dX9_peopleKinds_49 : decode cX9_peopleKinds 49 = .ok (.getfield 34, 3) := by decide +kernel
theorem dX9_peopleKinds_52 : decode cX9_peopleKinds 52 = .ok (.iload 5, 2) := by decide +kernel
theorem dX9_peopleKinds_54 : decode cX9_peopleKinds 54 = .ok (.iconst 3, 1) := by decide +kernel
theorem dX9_peopleKinds_55 : decode cX9_peopleKinds 55 = .ok (.iadd, 1) := by decide +kernel
theorem dX9_peopleKinds_56 : decode cX9_peopleKinds 56 = .ok (.iaload, 1) := by decide +kernel
theorem dX9_peopleKinds_57 : decode cX9_peopleKinds 57 = .ok (.if_icmp .ne 7, 3) := by decide +kernel
theorem dX9_peopleKinds_60 : decode cX9_peopleKinds 60 = .ok (.iconst 1, 1) := by decide +kernel
theorem dX9_peopleKinds_61 : decode cX9_peopleKinds 61 = .ok (.goto 4, 3) := by decide +kernel
theorem dX9_peopleKinds_64 : decode cX9_peopleKinds 64 = .ok (.iconst 0, 1) := by decide +kernel
theorem dX9_peopleKinds_65 : decode cX9_peopleKinds 65 = .ok (.istore 6, 2) := by decide +kernel
theorem dX9_peopleKinds_67 : decode cX9_peopleKinds 67 = .ok (.iload 4, 2) := by decide +kernel
theorem dX9_peopleKinds_69 : decode cX9_peopleKinds 69 = .ok (.ifCond .eq 23, 3) := by decide +kernel
theorem dX9_peopleKinds_72 : decode cX9_peopleKinds 72 = .ok (.aload_n 0, 1) := by decide +kernel
theorem dX9_peopleKinds_73 : decode cX9_peopleKinds 73 = .ok (.getfield 34, 3) := by decide +kernel
theorem dX9_peopleKinds_76 : decode cX9_peopleKinds 76 = .ok (.iload 5, 2) := by decide +kernel
theorem dX9_peopleKinds_78 : decode cX9_peopleKinds 78 = .ok (.iaload, 1) := by decide +kernel
theorem dX9_peopleKinds_79 : decode cX9_peopleKinds 79 = .ok (.iload_n 1, 1) := by decide +kernel
theorem dX9_peopleKinds_80 : decode cX9_peopleKinds 80 = .ok (.if_icmp .ne 8, 3) := by decide +kernel
theorem dX9_peopleKinds_83 : decode cX9_peopleKinds 83 = .ok (.iload 6, 2) := by decide +kernel
theorem dX9_peopleKinds_85 : decode cX9_peopleKinds 85 = .ok (.ifCond .eq 7, 3) := by decide +kernel
theorem dX9_peopleKinds_88 : decode cX9_peopleKinds 88 = .ok (.iconst 1, 1) := by decide +kernel
theorem dX9_peopleKinds_89 : decode cX9_peopleKinds 89 = .ok (.goto 4, 3) := by decide +kernel
theorem dX9_peopleKinds_92 : decode cX9_peopleKinds 92 = .ok (.iconst 0, 1) := by decide +kernel
theorem dX9_peopleKinds_93 : decode cX9_peopleKinds 93 = .ok (.istore 4, 2) := by decide +kernel
theorem dX9_peopleKinds_95 : decode cX9_peopleKinds 95 = .ok (.iinc 5 4, 3) := by decide +kernel
theorem dX9_peopleKinds_98 : decode cX9_peopleKinds 98 = .ok (.goto (-83), 3) := by decide +kernel
theorem dX9_peopleKinds_101 : decode cX9_peopleKinds 101 = .ok (.iload_n 2, 1) := by decide +kernel
theorem dX9_peopleKinds_102 : decode cX9_peopleKinds 102 = .ok (.iload 4, 2) := by decide +kernel
theorem dX9_peopleKinds_104 : decode cX9_peopleKinds 104 = .ok (.ifCond .eq 9, 3) := by decide +kernel
theorem dX9_peopleKinds_107 : decode cX9_peopleKinds 107 = .ok (.iconst 1, 1) := by decide +kernel
theorem dX9_peopleKinds_108 : decode cX9_peopleKinds 108 = .ok (.iload_n 3, 1) := by decide +kernel
theorem dX9_peopleKinds_109 : decode cX9_peopleKinds 109 = .ok (.ishl, 1) := by decide +kernel
theorem dX9_peopleKinds_110 : decode cX9_peopleKinds 110 = .ok (.goto 4, 3) := by decide +kernel
theorem dX9_peopleKinds_113 : decode cX9_peopleKinds 113 = .ok (.iconst 0, 1) := by decide +kernel
theorem dX9_peopleKinds_114 : decode cX9_peopleKinds 114 = .ok (.ior, 1) := by decide +kernel
theorem dX9_peopleKinds_115 : decode cX9_peopleKinds 115 = .ok (.istore_n 2, 1) := by decide +kernel
theorem dX9_peopleKinds_116 : decode cX9_peopleKinds 116 = .ok (.iinc 3 1, 3) := by decide +kernel
theorem dX9_peopleKinds_119 : decode cX9_peopleKinds 119 = .ok (.goto (-115), 3) := by decide +kernel
theorem dX9_peopleKinds_122 : decode cX9_peopleKinds 122 = .ok (.iload_n 2, 1) := by decide +kernel
theorem dX9_peopleKinds_123 : decode cX9_peopleKinds 123 = .ok (.ireturn, 1) := by decide +kernel
theorem dX9_is_0 : decode cX9_is 0 = .ok (.iload_n 1, 1) := by decide +kernel
theorem dX9_is_1 : decode cX9_is 1 = .ok (.invokestatic 219, 3) := by decide +kernel
theorem dX9_is_4 : decode cX9_is 4 = .ok (.ifCond .eq 11, 3) := by decide +kernel
theorem dX9_is_7 : decode cX9_is 7 = .ok (.aload_n 0, 1) := by decide +kernel
theorem dX9_is_8 : decode cX9_is 8 = .ok (.iload_n 1, 1) := by decide +kernel
theorem dX9_is_9 : decode cX9_is 9 = .ok (.invokevirtual 256, 3) := by decide +kernel
theorem dX9_is_12 : decode cX9_is 12 = .ok (.goto 7, 3) := by decide +kernel
theorem dX9_is_15 : decode cX9_is 15 = .ok (.aload_n 0, 1) := by decide +kernel
theorem dX9_is_16 : decode cX9_is 16 = .ok (.invokevirtual 95, 3) := by decide +kernel
theorem dX9_is_19 : decode cX9_is 19 = .ok (.ireturn, 1) := by decide +kernel
theorem dX9_kinds_0 : decode cX9_kinds 0 = .ok (.aload_n 0, 1) := by decide +kernel
theorem dX9_kinds_1 : decode cX9_kinds 1 = .ok (.iload_n 1, 1) := by decide +kernel
theorem dX9_kinds_2 : decode cX9_kinds 2 = .ok (.invokevirtual 216, 3) := by decide +kernel
theorem dX9_kinds_5 : decode cX9_kinds 5 = .ok (.ifCond .eq 11, 3) := by decide +kernel
theorem dX9_kinds_8 : decode cX9_kinds 8 = .ok (.aload_n 0, 1) := by decide +kernel
theorem dX9_kinds_9 : decode cX9_kinds 9 = .ok (.iload_n 1, 1) := by decide +kernel
theorem dX9_kinds_10 : decode cX9_kinds 10 = .ok (.invokevirtual 259, 3) := by decide +kernel
theorem dX9_kinds_13 : decode cX9_kinds 13 = .ok (.goto 7, 3) := by decide +kernel
theorem dX9_kinds_16 : decode cX9_kinds 16 = .ok (.aload_n 0, 1) := by decide +kernel
theorem dX9_kinds_17 : decode cX9_kinds 17 = .ok (.invokevirtual 95, 3) := by decide +kernel
theorem dX9_kinds_20 : decode cX9_kinds 20 = .ok (.ireturn, 1) := by decide +kernel
theorem dX9_alike_0 : decode cX9_alike 0 = .ok (.iconst 0, 1) := by decide +kernel
theorem dX9_alike_1 : decode cX9_alike 1 = .ok (.istore 4, 2) := by decide +kernel
theorem dX9_alike_3 : decode cX9_alike 3 = .ok (.iconst 0, 1) := by decide +kernel
theorem dX9_alike_4 : decode cX9_alike 4 = .ok (.istore 5, 2) := by decide +kernel
theorem dX9_alike_6 : decode cX9_alike 6 = .ok (.iload 5, 2) := by decide +kernel
theorem dX9_alike_8 : decode cX9_alike 8 = .ok (.iconst 5, 1) := by decide +kernel
theorem dX9_alike_9 : decode cX9_alike 9 = .ok (.if_icmp .gt 117, 3) := by decide +kernel
theorem dX9_alike_12 : decode cX9_alike 12 = .ok (.iconst 0, 1) := by decide +kernel
theorem dX9_alike_13 : decode cX9_alike 13 = .ok (.istore 6, 2) := by decide +kernel
theorem dX9_alike_15 : decode cX9_alike 15 = .ok (.iload_n 1, 1) := by decide +kernel
theorem dX9_alike_16 : decode cX9_alike 16 = .ok (.ifCond .eq 13, 3) := by decide +kernel
theorem dX9_alike_19 : decode cX9_alike 19 = .ok (.iload 5, 2) := by decide +kernel
theorem dX9_alike_21 : decode cX9_alike 21 = .ok (.iload_n 3, 1) := by decide +kernel
theorem dX9_alike_22 : decode cX9_alike 22 = .ok (.iload_n 2, 1) := by decide +kernel
theorem dX9_alike_23 : decode cX9_alike 23 = .ok (.invokestatic 182, 3) := by decide +kernel
theorem dX9_alike_26 : decode cX9_alike 26 = .ok (.goto 10, 3) := by decide +kernel
theorem dX9_alike_29 : decode cX9_alike 29 = .ok (.iload 5, 2) := by decide +kernel
theorem dX9_alike_31 : decode cX9_alike 31 = .ok (.iload_n 2, 1) := by decide +kernel
theorem dX9_alike_32 : decode cX9_alike 32 = .ok (.iload_n 3, 1) := by decide +kernel
theorem dX9_alike_33 : decode cX9_alike 33 = .ok (.invokestatic 186, 3) := by decide +kernel
theorem dX9_alike_36 : decode cX9_alike 36 = .ok (.istore 7, 2) := by decide +kernel
theorem dX9_alike_38 : decode cX9_alike 38 = .ok (.iconst 0, 1) := by decide +kernel
theorem dX9_alike_39 : decode cX9_alike 39 = .ok (.istore 8, 2) := by decide +kernel
theorem dX9_alike_41 : decode cX9_alike 41 = .ok (.iload 8, 2) := by decide +kernel
theorem dX9_alike_43 : decode cX9_alike 43 = .ok (.iconst 5, 1) := by decide +kernel
theorem dX9_alike_44 : decode cX9_alike 44 = .ok (.if_icmp .gt 67, 3) := by decide +kernel
theorem dX9_alike_47 : decode cX9_alike 47 = .ok (.iload_n 1, 1) := by decide +kernel
theorem dX9_alike_48 : decode cX9_alike 48 = .ok (.ifCond .eq 13, 3) := by decide +kernel
theorem dX9_alike_51 : decode cX9_alike 51 = .ok (.iload 8, 2) := by decide +kernel
theorem dX9_alike_53 : decode cX9_alike 53 = .ok (.iload_n 3, 1) := by decide +kernel
theorem dX9_alike_54 : decode cX9_alike 54 = .ok (.iload_n 2, 1) := by decide +kernel
theorem dX9_alike_55 : decode cX9_alike 55 = .ok (.invokestatic 182, 3) := by decide +kernel
theorem dX9_alike_58 : decode cX9_alike 58 = .ok (.goto 10, 3) := by decide +kernel
theorem dX9_alike_61 : decode cX9_alike 61 = .ok (.iload 8, 2) := by decide +kernel
theorem dX9_alike_63 : decode cX9_alike 63 = .ok (.iload_n 2, 1) := by decide +kernel
theorem dX9_alike_64 : decode cX9_alike 64 = .ok (.iload_n 3, 1) := by decide +kernel
theorem dX9_alike_65 : decode cX9_alike 65 = .ok (.invokestatic 186, 3) := by decide +kernel
theorem dX9_alike_68 : decode cX9_alike 68 = .ok (.istore 9, 2) := by decide +kernel
theorem dX9_alike_70 : decode cX9_alike 70 = .ok (.iload 6, 2) := by decide +kernel
theorem dX9_alike_72 : decode cX9_alike 72 = .ok (.iload_n 0, 1) := by decide +kernel
theorem dX9_alike_73 : decode cX9_alike 73 = .ok (.iload 5, 2) := by decide +kernel
theorem dX9_alike_75 : decode cX9_alike 75 = .ok (.invokestatic 189, 3) := by decide +kernel
theorem dX9_alike_78 : decode cX9_alike 78 = .ok (.ifCond .eq 23, 3) := by decide +kernel
theorem dX9_alike_81 : decode cX9_alike 81 = .ok (.iload_n 0, 1) := by decide +kernel
theorem dX9_alike_82 : decode cX9_alike 82 = .ok (.iload 8, 2) := by decide +kernel
theorem dX9_alike_84 : decode cX9_alike 84 = .ok (.invokestatic 189, 3) := by decide +kernel
theorem dX9_alike_87 : decode cX9_alike 87 = .ok (.ifCond .eq 14, 3) := by decide +kernel
theorem dX9_alike_90 : decode cX9_alike 90 = .ok (.iload 7, 2) := by decide +kernel
theorem dX9_alike_92 : decode cX9_alike 92 = .ok (.iload 9, 2) := by decide +kernel
theorem dX9_alike_94 : decode cX9_alike 94 = .ok (.if_icmp .ne 7, 3) := by decide +kernel
theorem dX9_alike_97 : decode cX9_alike 97 = .ok (.iconst 1, 1) := by decide +kernel
theorem dX9_alike_98 : decode cX9_alike 98 = .ok (.goto 4, 3) := by decide +kernel
theorem dX9_alike_101 : decode cX9_alike 101 = .ok (.iconst 0, 1) := by decide +kernel
theorem dX9_alike_102 : decode cX9_alike 102 = .ok (.iadd, 1) := by decide +kernel
theorem dX9_alike_103 : decode cX9_alike 103 = .ok (.istore 6, 2) := by decide +kernel
theorem dX9_alike_105 : decode cX9_alike 105 = .ok (.iinc 8 1, 3) := by decide +kernel
theorem dX9_alike_108 : decode cX9_alike 108 = .ok (.goto (-67), 3) := by decide +kernel
theorem dX9_alike_111 : decode cX9_alike 111 = .ok (.iload 4, 2) := by decide +kernel
theorem dX9_alike_113 : decode cX9_alike 113 = .ok (.iload 6, 2) := by decide +kernel
theorem dX9_alike_115 : decode cX9_alike 115 = .ok (.invokestatic 262, 3) := by decide +kernel
theorem dX9_alike_118 : decode cX9_alike 118 = .ok (.istore 4, 2) := by decide +kernel
theorem dX9_alike_120 : decode cX9_alike 120 = .ok (.iinc 5 1, 3) := by decide +kernel
theorem dX9_alike_123 : decode cX9_alike 123 = .ok (.goto (-117), 3) := by decide +kernel
theorem dX9_alike_126 : decode cX9_alike 126 = .ok (.iload 4, 2) := by decide +kernel
theorem dX9_alike_128 : decode cX9_alike 128 = .ok (.ireturn, 1) := by decide +kernel
theorem dX9_look_0 : decode cX9_look 0 = .ok (.iload_n 1, 1) := by decide +kernel
theorem dX9_look_1 : decode cX9_look 1 = .ok (.invokestatic 219, 3) := by decide +kernel
theorem dX9_look_4 : decode cX9_look 4 = .ok (.ifCond .ne 8, 3) := by decide +kernel
theorem dX9_look_7 : decode cX9_look 7 = .ok (.aload_n 0, 1) := by decide +kernel
theorem dX9_look_8 : decode cX9_look 8 = .ok (.invokevirtual 95, 3) := by decide +kernel
theorem dX9_look_11 : decode cX9_look 11 = .ok (.ireturn, 1) := by decide +kernel
theorem dX9_look_12 : decode cX9_look 12 = .ok (.aload_n 0, 1) := by decide +kernel
theorem dX9_look_13 : decode cX9_look 13 = .ok (.iload_n 1, 1) := by decide +kernel
theorem dX9_look_14 : decode cX9_look 14 = .ok (.invokevirtual 256, 3) := by decide +kernel
theorem dX9_look_17 : decode cX9_look 17 = .ok (.istore_n 2, 1) := by decide +kernel
theorem dX9_look_18 : decode cX9_look 18 = .ok (.iconst (-1), 1) := by decide +kernel
theorem dX9_look_19 : decode cX9_look 19 = .ok (.istore_n 3, 1) := by decide +kernel
theorem dX9_look_20 : decode cX9_look 20 = .ok (.ldc_w 265, 3) := by decide +kernel
theorem dX9_look_23 : decode cX9_look 23 = .ok (.istore 4, 2) := by decide +kernel
theorem dX9_look_25 : decode cX9_look 25 = .ok (.iconst 0, 1) := by decide +kernel
theorem dX9_look_26 : decode cX9_look 26 = .ok (.istore 5, 2) := by decide +kernel
theorem dX9_look_28 : decode cX9_look 28 = .ok (.iload 5, 2) := by decide +kernel
theorem dX9_look_30 : decode cX9_look 30 = .ok (.iconst 2, 1) := by decide +kernel
theorem dX9_look_31 : decode cX9_look 31 = .ok (.if_icmp .ge 69, 3) := by decide +kernel
theorem dX9_look_34 : decode cX9_look 34 = .ok (.iload_n 2, 1) := by decide +kernel
theorem dX9_look_35 : decode cX9_look 35 = .ok (.ifCond .eq 65, 3) := by decide +kernel
theorem dX9_look_38 : decode cX9_look 38 = .ok (.iconst 1, 1) := by decide +kernel
theorem dX9_look_39 : decode cX9_look 39 = .ok (.istore 6, 2) := by decide +kernel
theorem dX9_look_41 : decode cX9_look 41 = .ok (.iload 6, 2) := by decide +kernel
theorem dX9_look_43 : decode cX9_look 43 = .ok (.bipush 12, 2) := by decide +kernel
theorem dX9_look_45 : decode cX9_look 45 = .ok (.if_icmp .gt 49, 3) := by decide +kernel
theorem dX9_look_48 : decode cX9_look 48 = .ok (.iload_n 2, 1) := by decide +kernel
theorem dX9_look_49 : decode cX9_look 49 = .ok (.iconst 1, 1) := by decide +kernel
theorem dX9_look_50 : decode cX9_look 50 = .ok (.iload 5, 2) := by decide +kernel
theorem dX9_look_52 : decode cX9_look 52 = .ok (.iload 6, 2) := by decide +kernel
theorem dX9_look_54 : decode cX9_look 54 = .ok (.invokestatic 266, 3) := by decide +kernel
theorem dX9_look_57 : decode cX9_look 57 = .ok (.istore 7, 2) := by decide +kernel
theorem dX9_look_59 : decode cX9_look 59 = .ok (.iload 7, 2) := by decide +kernel
theorem dX9_look_61 : decode cX9_look 61 = .ok (.iload 4, 2) := by decide +kernel
theorem dX9_look_63 : decode cX9_look 63 = .ok (.if_icmp .ge 14, 3) := by decide +kernel
theorem dX9_look_66 : decode cX9_look 66 = .ok (.bipush 100, 2) := by decide +kernel
theorem dX9_look_68 : decode cX9_look 68 = .ok (.iload 5, 2) := by decide +kernel
theorem dX9_look_70 : decode cX9_look 70 = .ok (.imul, 1) := by decide +kernel
theorem dX9_look_71 : decode cX9_look 71 = .ok (.iload 6, 2) := by decide +kernel
theorem dX9_look_73 : decode cX9_look 73 = .ok (.iadd, 1) := by decide +kernel
theorem dX9_look_74 : decode cX9_look 74 = .ok (.goto 4, 3) := by decide +kernel
theorem dX9_look_77 : decode cX9_look 77 = .ok (.iload_n 3, 1) := by decide +kernel
theorem dX9_look_78 : decode cX9_look 78 = .ok (.istore_n 3, 1) := by decide +kernel
theorem dX9_look_79 : decode cX9_look 79 = .ok (.iload 4, 2) := by decide +kernel
theorem dX9_look_81 : decode cX9_look 81 = .ok (.iload 7, 2) := by decide +kernel
theorem dX9_look_83 : decode cX9_look 83 = .ok (.invokestatic 179, 3) := by decide +kernel
theorem dX9_look_86 : decode cX9_look 86 = .ok (.istore 4, 2) := by decide +kernel
theorem dX9_look_88 : decode cX9_look 88 = .ok (.iinc 6 1, 3) := by decide +kernel
theorem dX9_look_91 : decode cX9_look 91 = .ok (.goto (-50), 3) := by decide +kernel
theorem dX9_look_94 : decode cX9_look 94 = .ok (.iinc 5 1, 3) := by decide +kernel
theorem dX9_look_97 : decode cX9_look 97 = .ok (.goto (-69), 3) := by decide +kernel
theorem dX9_look_100 : decode cX9_look 100 = .ok (.iload_n 3, 1) := by decide +kernel
theorem dX9_look_101 : decode cX9_look 101 = .ok (.ireturn, 1) := by decide +kernel
theorem dX9_ask_0 : decode cX9_ask 0 = .ok (.aload_n 0, 1) := by decide +kernel
theorem dX9_ask_1 : decode cX9_ask 1 = .ok (.iload_n 1, 1) := by decide +kernel
theorem dX9_ask_2 : decode cX9_ask 2 = .ok (.invokevirtual 216, 3) := by decide +kernel
theorem dX9_ask_5 : decode cX9_ask 5 = .ok (.ifCond .ne 8, 3) := by decide +kernel
theorem dX9_ask_8 : decode cX9_ask 8 = .ok (.aload_n 0, 1) := by decide +kernel
theorem dX9_ask_9 : decode cX9_ask 9 = .ok (.invokevirtual 95, 3) := by decide +kernel
theorem dX9_ask_12 : decode cX9_ask 12 = .ok (.ireturn, 1) := by decide +kernel
theorem dX9_ask_13 : decode cX9_ask 13 = .ok (.aload_n 0, 1) := by decide +kernel
theorem dX9_ask_14 : decode cX9_ask 14 = .ok (.iload_n 1, 1) := by decide +kernel
theorem dX9_ask_15 : decode cX9_ask 15 = .ok (.invokevirtual 259, 3) := by decide +kernel
theorem dX9_ask_18 : decode cX9_ask 18 = .ok (.istore_n 2, 1) := by decide +kernel
theorem dX9_ask_19 : decode cX9_ask 19 = .ok (.iconst (-1), 1) := by decide +kernel
theorem dX9_ask_20 : decode cX9_ask 20 = .ok (.istore_n 3, 1) := by decide +kernel
theorem dX9_ask_21 : decode cX9_ask 21 = .ok (.ldc_w 265, 3) := by decide +kernel
theorem dX9_ask_24 : decode cX9_ask 24 = .ok (.istore 4, 2) := by decide +kernel
theorem dX9_ask_26 : decode cX9_ask 26 = .ok (.iconst 0, 1) := by decide +kernel
theorem dX9_ask_27 : decode cX9_ask 27 = .ok (.istore 5, 2) := by decide +kernel
theorem dX9_ask_29 : decode cX9_ask 29 = .ok (.iload 5, 2) := by decide +kernel
theorem dX9_ask_31 : decode cX9_ask 31 = .ok (.sipush 240, 3) := by decide +kernel
theorem dX9_ask_34 : decode cX9_ask 34 = .ok (.if_icmp .ge 55, 3) := by decide +kernel
theorem dX9_ask_37 : decode cX9_ask 37 = .ok (.iload_n 2, 1) := by decide +kernel
theorem dX9_ask_38 : decode cX9_ask 38 = .ok (.ifCond .eq 51, 3) := by decide +kernel
theorem dX9_ask_41 : decode cX9_ask 41 = .ok (.iload_n 2, 1) := by decide +kernel
theorem dX9_ask_42 : decode cX9_ask 42 = .ok (.iconst 0, 1) := by decide +kernel
theorem dX9_ask_43 : decode cX9_ask 43 = .ok (.iload 5, 2) := by decide +kernel
theorem dX9_ask_45 : decode cX9_ask 45 = .ok (.bipush 10, 2) := by decide +kernel
theorem dX9_ask_47 : decode cX9_ask 47 = .ok (.idiv, 1) := by decide +kernel
theorem dX9_ask_48 : decode cX9_ask 48 = .ok (.iload 5, 2) := by decide +kernel
theorem dX9_ask_50 : decode cX9_ask 50 = .ok (.bipush 10, 2) := by decide +kernel
theorem dX9_ask_52 : decode cX9_ask 52 = .ok (.irem, 1) := by decide +kernel
theorem dX9_ask_53 : decode cX9_ask 53 = .ok (.iconst 1, 1) := by decide +kernel
theorem dX9_ask_54 : decode cX9_ask 54 = .ok (.isub, 1) := by decide +kernel
theorem dX9_ask_55 : decode cX9_ask 55 = .ok (.invokestatic 266, 3) := by decide +kernel
theorem dX9_ask_58 : decode cX9_ask 58 = .ok (.istore 6, 2) := by decide +kernel
theorem dX9_ask_60 : decode cX9_ask 60 = .ok (.iload 6, 2) := by decide +kernel
theorem dX9_ask_62 : decode cX9_ask 62 = .ok (.iload 4, 2) := by decide +kernel
theorem dX9_ask_64 : decode cX9_ask 64 = .ok (.if_icmp .ge 8, 3) := by decide +kernel
theorem dX9_ask_67 : decode cX9_ask 67 = .ok (.iload 5, 2) := by decide +kernel
theorem dX9_ask_69 : decode cX9_ask 69 = .ok (.goto 4, 3) := by decide +kernel
theorem dX9_ask_72 : decode cX9_ask 72 = .ok (.iload_n 3, 1) := by decide +kernel
theorem dX9_ask_73 : decode cX9_ask 73 = .ok (.istore_n 3, 1) := by decide +kernel
theorem dX9_ask_74 : decode cX9_ask 74 = .ok (.iload 4, 2) := by decide +kernel
theorem dX9_ask_76 : decode cX9_ask 76 = .ok (.iload 6, 2) := by decide +kernel
theorem dX9_ask_78 : decode cX9_ask 78 = .ok (.invokestatic 179, 3) := by decide +kernel
theorem dX9_ask_81 : decode cX9_ask 81 = .ok (.istore 4, 2) := by decide +kernel
theorem dX9_ask_83 : decode cX9_ask 83 = .ok (.iinc 5 1, 3) := by decide +kernel
theorem dX9_ask_86 : decode cX9_ask 86 = .ok (.goto (-57), 3) := by decide +kernel
theorem dX9_ask_89 : decode cX9_ask 89 = .ok (.iload_n 3, 1) := by decide +kernel
theorem dX9_ask_90 : decode cX9_ask 90 = .ok (.ireturn, 1) := by decide +kernel
theorem dX9_gets_0 : decode cX9_gets 0 = .ok (.aload_n 0, 1) := by decide +kernel
theorem dX9_gets_1 : decode cX9_gets 1 = .ok (.invokevirtual 210, 3) := by decide +kernel
theorem dX9_gets_4 : decode cX9_gets 4 = .ok (.istore 7, 2) := by decide +kernel
theorem dX9_gets_6 : decode cX9_gets 6 = .ok (.iload 5, 2) := by decide +kernel
theorem dX9_gets_8 : decode cX9_gets 8 = .ok (.iconst 0, 1) := by decide +kernel
theorem dX9_gets_9 : decode cX9_gets 9 = .ok (.invokestatic 189, 3) := by decide +kernel
theorem dX9_gets_12 : decode cX9_gets 12 = .ok (.ifCond .eq 13, 3) := by decide +kernel
theorem dX9_gets_15 : decode cX9_gets 15 = .ok (.aload_n 0, 1) := by decide +kernel
theorem dX9_gets_16 : decode cX9_gets 16 = .ok (.iload_n 1, 1) := by decide +kernel
theorem dX9_gets_17 : decode cX9_gets 17 = .ok (.iload 7, 2) := by decide +kernel
theorem dX9_gets_19 : decode cX9_gets 19 = .ok (.invokevirtual 192, 3) := by decide +kernel
theorem dX9_gets_22 : decode cX9_gets 22 = .ok (.goto 4, 3) := by decide +kernel
theorem dX9_gets_25 : decode cX9_gets 25 = .ok (.iconst 0, 1) := by decide +kernel
theorem dX9_gets_26 : decode cX9_gets 26 = .ok (.iload 5, 2) := by decide +kernel
theorem dX9_gets_28 : decode cX9_gets 28 = .ok (.iconst 1, 1) := by decide +kernel
theorem dX9_gets_29 : decode cX9_gets 29 = .ok (.invokestatic 189, 3) := by decide +kernel
theorem dX9_gets_32 : decode cX9_gets 32 = .ok (.ifCond .eq 13, 3) := by decide +kernel
theorem dX9_gets_35 : decode cX9_gets 35 = .ok (.aload_n 0, 1) := by decide +kernel
theorem dX9_gets_36 : decode cX9_gets 36 = .ok (.iload_n 2, 1) := by decide +kernel
theorem dX9_gets_37 : decode cX9_gets 37 = .ok (.iload 7, 2) := by decide +kernel
theorem dX9_gets_39 : decode cX9_gets 39 = .ok (.invokevirtual 192, 3) := by decide +kernel
theorem dX9_gets_42 : decode cX9_gets 42 = .ok (.goto 4, 3) := by decide +kernel
theorem dX9_gets_45 : decode cX9_gets 45 = .ok (.iconst 0, 1) := by decide +kernel
theorem dX9_gets_46 : decode cX9_gets 46 = .ok (.iadd, 1) := by decide +kernel
theorem dX9_gets_47 : decode cX9_gets 47 = .ok (.istore 8, 2) := by decide +kernel
theorem dX9_gets_49 : decode cX9_gets 49 = .ok (.aload_n 0, 1) := by decide +kernel
theorem dX9_gets_50 : decode cX9_gets 50 = .ok (.getfield 22, 3) := by decide +kernel
theorem dX9_gets_53 : decode cX9_gets 53 = .ok (.iload_n 3, 1) := by decide +kernel
theorem dX9_gets_54 : decode cX9_gets 54 = .ok (.iaload, 1) := by decide +kernel
theorem dX9_gets_55 : decode cX9_gets 55 = .ok (.iload 4, 2) := by decide +kernel
theorem dX9_gets_57 : decode cX9_gets 57 = .ok (.invokestatic 189, 3) := by decide +kernel
theorem dX9_gets_60 : decode cX9_gets 60 = .ok (.ifCond .ne 17, 3) := by decide +kernel
theorem dX9_gets_63 : decode cX9_gets 63 = .ok (.iload 8, 2) := by decide +kernel
theorem dX9_gets_65 : decode cX9_gets 65 = .ok (.aload_n 0, 1) := by decide +kernel
theorem dX9_gets_66 : decode cX9_gets 66 = .ok (.iload_n 3, 1) := by decide +kernel
theorem dX9_gets_67 : decode cX9_gets 67 = .ok (.iload 4, 2) := by decide +kernel
theorem dX9_gets_69 : decode cX9_gets 69 = .ok (.iload 7, 2) := by decide +kernel
theorem dX9_gets_71 : decode cX9_gets 71 = .ok (.invokevirtual 198, 3) := by decide +kernel
theorem dX9_gets_74 : decode cX9_gets 74 = .ok (.if_icmp .lt 7, 3) := by decide +kernel
theorem dX9_gets_77 : decode cX9_gets 77 = .ok (.iconst 1, 1) := by decide +kernel
theorem dX9_gets_78 : decode cX9_gets 78 = .ok (.goto 4, 3) := by decide +kernel
theorem dX9_gets_81 : decode cX9_gets 81 = .ok (.iconst 0, 1) := by decide +kernel
theorem dX9_gets_82 : decode cX9_gets 82 = .ok (.istore 9, 2) := by decide +kernel
theorem dX9_gets_84 : decode cX9_gets 84 = .ok (.iload 5, 2) := by decide +kernel
theorem dX9_gets_86 : decode cX9_gets 86 = .ok (.iload 6, 2) := by decide +kernel
theorem dX9_gets_88 : decode cX9_gets 88 = .ok (.invokestatic 189, 3) := by decide +kernel
theorem dX9_gets_91 : decode cX9_gets 91 = .ok (.ifCond .eq 24, 3) := by decide +kernel
theorem dX9_gets_94 : decode cX9_gets 94 = .ok (.iconst 1, 1) := by decide +kernel
theorem dX9_gets_95 : decode cX9_gets 95 = .ok (.aload_n 0, 1) := by decide +kernel
theorem dX9_gets_96 : decode cX9_gets 96 = .ok (.iload 6, 2) := by decide +kernel
theorem dX9_gets_98 : decode cX9_gets 98 = .ok (.ifCond .ne 7, 3) := by decide +kernel
theorem dX9_gets_101 : decode cX9_gets 101 = .ok (.iload_n 1, 1) := by decide +kernel
theorem dX9_gets_102 : decode cX9_gets 102 = .ok (.goto 4, 3) := by decide +kernel
theorem dX9_gets_105 : decode cX9_gets 105 = .ok (.iload_n 2, 1) := by decide +kernel
theorem dX9_gets_106 : decode cX9_gets 106 = .ok (.iload 7, 2) := by decide +kernel
theorem dX9_gets_108 : decode cX9_gets 108 = .ok (.invokevirtual 192, 3) := by decide +kernel
theorem dX9_gets_111 : decode cX9_gets 111 = .ok (.iadd, 1) := by decide +kernel
theorem dX9_gets_112 : decode cX9_gets 112 = .ok (.goto 4, 3) := by decide +kernel
theorem dX9_gets_115 : decode cX9_gets 115 = .ok (.iconst 0, 1) := by decide +kernel
theorem dX9_gets_116 : decode cX9_gets 116 = .ok (.istore 10, 2) := by decide +kernel
theorem dX9_gets_118 : decode cX9_gets 118 = .ok (.iload 9, 2) := by decide +kernel
theorem dX9_gets_120 : decode cX9_gets 120 = .ok (.ifCond .eq 7, 3) := by decide +kernel
theorem dX9_gets_123 : decode cX9_gets 123 = .ok (.iconst 4, 1) := by decide +kernel
theorem dX9_gets_124 : decode cX9_gets 124 = .ok (.goto 4, 3) := by decide +kernel
theorem dX9_gets_127 : decode cX9_gets 127 = .ok (.iconst 0, 1) := by decide +kernel
theorem dX9_gets_128 : decode cX9_gets 128 = .ok (.iload 10, 2) := by decide +kernel
theorem dX9_gets_130 : decode cX9_gets 130 = .ok (.isub, 1) := by decide +kernel
theorem dX9_gets_131 : decode cX9_gets 131 = .ok (.ireturn, 1) := by decide +kernel
theorem dX9_hosts_0 : decode cX9_hosts 0 = .ok (.aload_n 0, 1) := by decide +kernel
theorem dX9_hosts_1 : decode cX9_hosts 1 = .ok (.iload_n 1, 1) := by decide +kernel
theorem dX9_hosts_2 : decode cX9_hosts 2 = .ok (.invokevirtual 216, 3) := by decide +kernel
theorem dX9_hosts_5 : decode cX9_hosts 5 = .ok (.ifCond .eq 42, 3) := by decide +kernel
theorem dX9_hosts_8 : decode cX9_hosts 8 = .ok (.aload_n 0, 1) := by decide +kernel
theorem dX9_hosts_9 : decode cX9_hosts 9 = .ok (.iload_n 2, 1) := by decide +kernel
theorem dX9_hosts_10 : decode cX9_hosts 10 = .ok (.invokevirtual 216, 3) := by decide +kernel
theorem dX9_hosts_13 : decode cX9_hosts 13 = .ok (.ifCond .eq 34, 3) := by decide +kernel
theorem dX9_hosts_16 : decode cX9_hosts 16 = .ok (.aload_n 0, 1) := by decide +kernel
theorem dX9_hosts_17 : decode cX9_hosts 17 = .ok (.iload_n 3, 1) := by decide +kernel
theorem dX9_hosts_18 : decode cX9_hosts 18 = .ok (.invokevirtual 216, 3) := by decide +kernel
theorem dX9_hosts_21 : decode cX9_hosts 21 = .ok (.ifCond .eq 26, 3) := by decide +kernel
theorem dX9_hosts_24 : decode cX9_hosts 24 = .ok (.iload 4, 2) := by decide +kernel
theorem dX9_hosts_26 : decode cX9_hosts 26 = .ok (.invokestatic 219, 3) := by decide +kernel
theorem dX9_hosts_29 : decode cX9_hosts 29 = .ok (.ifCond .eq 18, 3) := by decide +kernel
theorem dX9_hosts_32 : decode cX9_hosts 32 = .ok (.iload_n 1, 1) := by decide +kernel
theorem dX9_hosts_33 : decode cX9_hosts 33 = .ok (.iload_n 2, 1) := by decide +kernel
theorem dX9_hosts_34 : decode cX9_hosts 34 = .ok (.if_icmp .eq 13, 3) := by decide +kernel
theorem dX9_hosts_37 : decode cX9_hosts 37 = .ok (.iload_n 1, 1) := by decide +kernel
theorem dX9_hosts_38 : decode cX9_hosts 38 = .ok (.iload_n 3, 1) := by decide +kernel
theorem dX9_hosts_39 : decode cX9_hosts 39 = .ok (.if_icmp .eq 8, 3) := by decide +kernel
theorem dX9_hosts_42 : decode cX9_hosts 42 = .ok (.iload_n 2, 1) := by decide +kernel
theorem dX9_hosts_43 : decode cX9_hosts 43 = .ok (.iload_n 3, 1) := by decide +kernel
theorem dX9_hosts_44 : decode cX9_hosts 44 = .ok (.if_icmp .ne 8, 3) := by decide +kernel
theorem dX9_hosts_47 : decode cX9_hosts 47 = .ok (.aload_n 0, 1) := by decide +kernel
theorem dX9_hosts_48 : decode cX9_hosts 48 = .ok (.invokevirtual 95, 3) := by decide +kernel
theorem dX9_hosts_51 : decode cX9_hosts 51 = .ok (.ireturn, 1) := by decide +kernel
theorem dX9_hosts_52 : decode cX9_hosts 52 = .ok (.aload_n 0, 1) := by decide +kernel
theorem dX9_hosts_53 : decode cX9_hosts 53 = .ok (.getfield 22, 3) := by decide +kernel
theorem dX9_hosts_56 : decode cX9_hosts 56 = .ok (.iload_n 1, 1) := by decide +kernel
theorem dX9_hosts_57 : decode cX9_hosts 57 = .ok (.iaload, 1) := by decide +kernel
theorem dX9_hosts_58 : decode cX9_hosts 58 = .ok (.iload 4, 2) := by decide +kernel
theorem dX9_hosts_60 : decode cX9_hosts 60 = .ok (.invokestatic 189, 3) := by decide +kernel
theorem dX9_hosts_63 : decode cX9_hosts 63 = .ok (.ifCond .eq 17, 3) := by decide +kernel
theorem dX9_hosts_66 : decode cX9_hosts 66 = .ok (.aload_n 0, 1) := by decide +kernel
theorem dX9_hosts_67 : decode cX9_hosts 67 = .ok (.getfield 22, 3) := by decide +kernel
theorem dX9_hosts_70 : decode cX9_hosts 70 = .ok (.iload_n 2, 1) := by decide +kernel
theorem dX9_hosts_71 : decode cX9_hosts 71 = .ok (.iaload, 1) := by decide +kernel
theorem dX9_hosts_72 : decode cX9_hosts 72 = .ok (.iload 4, 2) := by decide +kernel
theorem dX9_hosts_74 : decode cX9_hosts 74 = .ok (.invokestatic 189, 3) := by decide +kernel
theorem dX9_hosts_77 : decode cX9_hosts 77 = .ok (.ifCond .ne 8, 3) := by decide +kernel
theorem dX9_hosts_80 : decode cX9_hosts 80 = .ok (.aload_n 0, 1) := by decide +kernel
theorem dX9_hosts_81 : decode cX9_hosts 81 = .ok (.invokevirtual 222, 3) := by decide +kernel
theorem dX9_hosts_84 : decode cX9_hosts 84 = .ok (.ireturn, 1) := by decide +kernel
theorem dX9_hosts_85 : decode cX9_hosts 85 = .ok (.iconst 0, 1) := by decide +kernel
theorem dX9_hosts_86 : decode cX9_hosts 86 = .ok (.istore 5, 2) := by decide +kernel
theorem dX9_hosts_88 : decode cX9_hosts 88 = .ok (.iconst 0, 1) := by decide +kernel
theorem dX9_hosts_89 : decode cX9_hosts 89 = .ok (.istore 6, 2) := by decide +kernel
theorem dX9_hosts_91 : decode cX9_hosts 91 = .ok (.iload 6, 2) := by decide +kernel
theorem dX9_hosts_93 : decode cX9_hosts 93 = .ok (.iconst 4, 1) := by decide +kernel
theorem dX9_hosts_94 : decode cX9_hosts 94 = .ok (.if_icmp .ge 92, 3) := by decide +kernel
theorem dX9_hosts_97 : decode cX9_hosts 97 = .ok (.aload_n 0, 1) := by decide +kernel
theorem dX9_hosts_98 : decode cX9_hosts 98 = .ok (.iload_n 1, 1) := by decide +kernel
theorem dX9_hosts_99 : decode cX9_hosts 99 = .ok (.iload_n 2, 1) := by decide +kernel
theorem dX9_hosts_100 : decode cX9_hosts 100 = .ok (.iload_n 3, 1) := by decide +kernel
theorem dX9_hosts_101 : decode cX9_hosts 101 = .ok (.iload 4, 2) := by decide +kernel
theorem dX9_hosts_103 : decode cX9_hosts 103 = .ok (.iload 6, 2) := by decide +kernel
theorem dX9_hosts_105 : decode cX9_hosts 105 = .ok (.iconst 0, 1) := by decide +kernel
theorem dX9_hosts_106 : decode cX9_hosts 106 = .ok (.invokevirtual 270, 3) := by decide +kernel
theorem dX9_hosts_109 : decode cX9_hosts 109 = .ok (.aload_n 0, 1) := by decide +kernel
theorem dX9_hosts_110 : decode cX9_hosts 110 = .ok (.iload_n 1, 1) := by decide +kernel
theorem dX9_hosts_111 : decode cX9_hosts 111 = .ok (.iload_n 2, 1) := by decide +kernel
theorem dX9_hosts_112 : decode cX9_hosts 112 = .ok (.iload_n 3, 1) := by decide +kernel
theorem dX9_hosts_113 : decode cX9_hosts 113 = .ok (.iload 4, 2) := by decide +kernel
theorem dX9_hosts_115 : decode cX9_hosts 115 = .ok (.iload 6, 2) := by decide +kernel
theorem dX9_hosts_117 : decode cX9_hosts 117 = .ok (.iconst 1, 1) := by decide +kernel
theorem dX9_hosts_118 : decode cX9_hosts 118 = .ok (.ixor, 1) := by decide +kernel
theorem dX9_hosts_119 : decode cX9_hosts 119 = .ok (.iconst 0, 1) := by decide +kernel
theorem dX9_hosts_120 : decode cX9_hosts 120 = .ok (.invokevirtual 270, 3) := by decide +kernel
theorem dX9_hosts_123 : decode cX9_hosts 123 = .ok (.if_icmp .lt 36, 3) := by decide +kernel
theorem dX9_hosts_126 : decode cX9_hosts 126 = .ok (.aload_n 0, 1) := by decide +kernel
theorem dX9_hosts_127 : decode cX9_hosts 127 = .ok (.iload_n 1, 1) := by decide +kernel
theorem dX9_hosts_128 : decode cX9_hosts 128 = .ok (.iload_n 2, 1) := by decide +kernel
theorem dX9_hosts_129 : decode cX9_hosts 129 = .ok (.iload_n 3, 1) := by decide +kernel
theorem dX9_hosts_130 : decode cX9_hosts 130 = .ok (.iload 4, 2) := by decide +kernel
theorem dX9_hosts_132 : decode cX9_hosts 132 = .ok (.iload 6, 2) := by decide +kernel
theorem dX9_hosts_134 : decode cX9_hosts 134 = .ok (.iconst 1, 1) := by decide +kernel
theorem dX9_hosts_135 : decode cX9_hosts 135 = .ok (.invokevirtual 270, 3) := by decide +kernel
theorem dX9_hosts_138 : decode cX9_hosts 138 = .ok (.aload_n 0, 1) := by decide +kernel
theorem dX9_hosts_139 : decode cX9_hosts 139 = .ok (.iload_n 1, 1) := by decide +kernel
theorem dX9_hosts_140 : decode cX9_hosts 140 = .ok (.iload_n 2, 1) := by decide +kernel
theorem dX9_hosts_141 : decode cX9_hosts 141 = .ok (.iload_n 3, 1) := by decide +kernel
theorem dX9_hosts_142 : decode cX9_hosts 142 = .ok (.iload 4, 2) := by decide +kernel
theorem dX9_hosts_144 : decode cX9_hosts 144 = .ok (.iload 6, 2) := by decide +kernel
theorem dX9_hosts_146 : decode cX9_hosts 146 = .ok (.iconst 2, 1) := by decide +kernel
theorem dX9_hosts_147 : decode cX9_hosts 147 = .ok (.ixor, 1) := by decide +kernel
theorem dX9_hosts_148 : decode cX9_hosts 148 = .ok (.iconst 1, 1) := by decide +kernel
theorem dX9_hosts_149 : decode cX9_hosts 149 = .ok (.invokevirtual 270, 3) := by decide +kernel
theorem dX9_hosts_152 : decode cX9_hosts 152 = .ok (.if_icmp .lt 7, 3) := by decide +kernel
theorem dX9_hosts_155 : decode cX9_hosts 155 = .ok (.iconst 1, 1) := by decide +kernel
theorem dX9_hosts_156 : decode cX9_hosts 156 = .ok (.goto 4, 3) := by decide +kernel
theorem dX9_hosts_159 : decode cX9_hosts 159 = .ok (.iconst 0, 1) := by decide +kernel
theorem dX9_hosts_160 : decode cX9_hosts 160 = .ok (.istore 7, 2) := by decide +kernel
theorem dX9_hosts_162 : decode cX9_hosts 162 = .ok (.iload 5, 2) := by decide +kernel
theorem dX9_hosts_164 : decode cX9_hosts 164 = .ok (.iload 7, 2) := by decide +kernel
theorem dX9_hosts_166 : decode cX9_hosts 166 = .ok (.ifCond .eq 10, 3) := by decide +kernel
theorem dX9_hosts_169 : decode cX9_hosts 169 = .ok (.iconst 1, 1) := by decide +kernel
theorem dX9_hosts_170 : decode cX9_hosts 170 = .ok (.iload 6, 2) := by decide +kernel
theorem dX9_hosts_172 : decode cX9_hosts 172 = .ok (.ishl, 1) := by decide +kernel
theorem dX9_hosts_173 : decode cX9_hosts 173 = .ok (.goto 4, 3) := by decide +kernel
theorem dX9_hosts_176 : decode cX9_hosts 176 = .ok (.iconst 0, 1) := by decide +kernel
theorem dX9_hosts_177 : decode cX9_hosts 177 = .ok (.ior, 1) := by decide +kernel
theorem dX9_hosts_178 : decode cX9_hosts 178 = .ok (.istore 5, 2) := by decide +kernel
theorem dX9_hosts_180 : decode cX9_hosts 180 = .ok (.iinc 6 1, 3) := by decide +kernel
theorem dX9_hosts_183 : decode cX9_hosts 183 = .ok (.goto (-92), 3) := by decide +kernel
theorem dX9_hosts_186 : decode cX9_hosts 186 = .ok (.iload 5, 2) := by decide +kernel
theorem dX9_hosts_188 : decode cX9_hosts 188 = .ok (.ireturn, 1) := by decide +kernel
theorem dX9_lay_0 : decode cX9_lay 0 = .ok (.lload_n 1, 1) := by decide +kernel
theorem dX9_lay_1 : decode cX9_lay 1 = .ok (.lstore 5, 2) := by decide +kernel
theorem dX9_lay_3 : decode cX9_lay 3 = .ok (.lload_n 3, 1) := by decide +kernel
theorem dX9_lay_4 : decode cX9_lay 4 = .ok (.lstore 7, 2) := by decide +kernel
theorem dX9_lay_6 : decode cX9_lay 6 = .ok (.lload 7, 2) := by decide +kernel
theorem dX9_lay_8 : decode cX9_lay 8 = .ok (.lconst 0, 1) := by decide +kernel
theorem dX9_lay_9 : decode cX9_lay 9 = .ok (.lcmp, 1) := by decide +kernel
theorem dX9_lay_10 : decode cX9_lay 10 = .ok (.ifCond .eq 21, 3) := by decide +kernel
theorem dX9_lay_13 : decode cX9_lay 13 = .ok (.lload 5, 2) := by decide +kernel
theorem dX9_lay_15 : decode cX9_lay 15 = .ok (.lload 7, 2) := by decide +kernel
theorem dX9_lay_17 : decode cX9_lay 17 = .ok (.lrem, 1) := by decide +kernel
theorem dX9_lay_18 : decode cX9_lay 18 = .ok (.lstore 9, 2) := by decide +kernel
theorem dX9_lay_20 : decode cX9_lay 20 = .ok (.lload 7, 2) := by decide +kernel
theorem dX9_lay_22 : decode cX9_lay 22 = .ok (.lstore 5, 2) := by decide +kernel
theorem dX9_lay_24 : decode cX9_lay 24 = .ok (.lload 9, 2) := by decide +kernel
theorem dX9_lay_26 : decode cX9_lay 26 = .ok (.lstore 7, 2) := by decide +kernel
theorem dX9_lay_28 : decode cX9_lay 28 = .ok (.goto (-22), 3) := by decide +kernel
theorem dX9_lay_31 : decode cX9_lay 31 = .ok (.aload_n 0, 1) := by decide +kernel
theorem dX9_lay_32 : decode cX9_lay 32 = .ok (.lload_n 1, 1) := by decide +kernel
theorem dX9_lay_33 : decode cX9_lay 33 = .ok (.lload 5, 2) := by decide +kernel
theorem dX9_lay_35 : decode cX9_lay 35 = .ok (.ldiv, 1) := by decide +kernel
theorem dX9_lay_36 : decode cX9_lay 36 = .ok (.putfield 274, 3) := by decide +kernel
theorem dX9_lay_39 : decode cX9_lay 39 = .ok (.aload_n 0, 1) := by decide +kernel
theorem dX9_lay_40 : decode cX9_lay 40 = .ok (.lload_n 3, 1) := by decide +kernel
theorem dX9_lay_41 : decode cX9_lay 41 = .ok (.lload 5, 2) := by decide +kernel
theorem dX9_lay_43 : decode cX9_lay 43 = .ok (.ldiv, 1) := by decide +kernel
theorem dX9_lay_44 : decode cX9_lay 44 = .ok (.putfield 56, 3) := by decide +kernel
theorem dX9_lay_47 : decode cX9_lay 47 = .ok (.return_, 1) := by decide +kernel
theorem dX9_slips_0 : decode cX9_slips 0 = .ok (.aload_n 0, 1) := by decide +kernel
theorem dX9_slips_1 : decode cX9_slips 1 = .ok (.iload_n 1, 1) := by decide +kernel
theorem dX9_slips_2 : decode cX9_slips 2 = .ok (.invokevirtual 216, 3) := by decide +kernel
theorem dX9_slips_5 : decode cX9_slips 5 = .ok (.ifCond .eq 20, 3) := by decide +kernel
theorem dX9_slips_8 : decode cX9_slips 8 = .ok (.iload_n 2, 1) := by decide +kernel
theorem dX9_slips_9 : decode cX9_slips 9 = .ok (.invokestatic 219, 3) := by decide +kernel
theorem dX9_slips_12 : decode cX9_slips 12 = .ok (.ifCond .eq 13, 3) := by decide +kernel
theorem dX9_slips_15 : decode cX9_slips 15 = .ok (.iload_n 3, 1) := by decide +kernel
theorem dX9_slips_16 : decode cX9_slips 16 = .ok (.iconst 0, 1) := by decide +kernel
theorem dX9_slips_17 : decode cX9_slips 17 = .ok (.bipush 10, 2) := by decide +kernel
theorem dX9_slips_19 : decode cX9_slips 19 = .ok (.invokestatic 91, 3) := by decide +kernel
theorem dX9_slips_22 : decode cX9_slips 22 = .ok (.ifCond .ne 8, 3) := by decide +kernel
theorem dX9_slips_25 : decode cX9_slips 25 = .ok (.aload_n 0, 1) := by decide +kernel
theorem dX9_slips_26 : decode cX9_slips 26 = .ok (.invokevirtual 95, 3) := by decide +kernel
theorem dX9_slips_29 : decode cX9_slips 29 = .ok (.ireturn, 1) := by decide +kernel
theorem dX9_slips_30 : decode cX9_slips 30 = .ok (.aload_n 0, 1) := by decide +kernel
theorem dX9_slips_31 : decode cX9_slips 31 = .ok (.invokevirtual 210, 3) := by decide +kernel
theorem dX9_slips_34 : decode cX9_slips 34 = .ok (.istore 4, 2) := by decide +kernel
theorem dX9_slips_36 : decode cX9_slips 36 = .ok (.aload_n 0, 1) := by decide +kernel
theorem dX9_slips_37 : decode cX9_slips 37 = .ok (.iload_n 2, 1) := by decide +kernel
theorem dX9_slips_38 : decode cX9_slips 38 = .ok (.invokevirtual 238, 3) := by decide +kernel
theorem dX9_slips_41 : decode cX9_slips 41 = .ok (.iconst 1, 1) := by decide +kernel
theorem dX9_slips_42 : decode cX9_slips 42 = .ok (.iload_n 1, 1) := by decide +kernel
theorem dX9_slips_43 : decode cX9_slips 43 = .ok (.ishl, 1) := by decide +kernel
theorem dX9_slips_44 : decode cX9_slips 44 = .ok (.iconst (-1), 1) := by decide +kernel
theorem dX9_slips_45 : decode cX9_slips 45 = .ok (.ixor, 1) := by decide +kernel
theorem dX9_slips_46 : decode cX9_slips 46 = .ok (.iand, 1) := by decide +kernel
theorem dX9_slips_47 : decode cX9_slips 47 = .ok (.istore 5, 2) := by decide +kernel
theorem dX9_slips_49 : decode cX9_slips 49 = .ok (.lconst 0, 1) := by decide +kernel
theorem dX9_slips_50 : decode cX9_slips 50 = .ok (.lstore 6, 2) := by decide +kernel
theorem dX9_slips_52 : decode cX9_slips 52 = .ok (.lconst 1, 1) := by decide +kernel
theorem dX9_slips_53 : decode cX9_slips 53 = .ok (.lstore 8, 2) := by decide +kernel
theorem dX9_slips_55 : decode cX9_slips 55 = .ok (.iconst 0, 1) := by decide +kernel
theorem dX9_slips_56 : decode cX9_slips 56 = .ok (.istore 10, 2) := by decide +kernel
theorem dX9_slips_58 : decode cX9_slips 58 = .ok (.iload 10, 2) := by decide +kernel
theorem dX9_slips_60 : decode cX9_slips 60 = .ok (.aload_n 0, 1) := by decide +kernel
theorem dX9_slips_61 : decode cX9_slips 61 = .ok (.getfield 69, 3) := by decide +kernel
theorem dX9_slips_64 : decode cX9_slips 64 = .ok (.if_icmp .ge 31, 3) := by decide +kernel
theorem dX9_slips_67 : decode cX9_slips 67 = .ok (.lload 8, 2) := by decide +kernel
theorem dX9_slips_69 : decode cX9_slips 69 = .ok (.iload 5, 2) := by decide +kernel
theorem dX9_slips_71 : decode cX9_slips 71 = .ok (.iload 10, 2) := by decide +kernel
theorem dX9_slips_73 : decode cX9_slips 73 = .ok (.invokestatic 189, 3) := by decide +kernel
theorem dX9_slips_76 : decode cX9_slips 76 = .ok (.ifCond .eq 9, 3) := by decide +kernel
theorem dX9_slips_79 : decode cX9_slips 79 = .ok (.ldc2_w 277, 3) := by decide +kernel
theorem dX9_slips_82 : decode cX9_slips 82 = .ok (.goto 4, 3) := by decide +kernel
theorem dX9_slips_85 : decode cX9_slips 85 = .ok (.lconst 1, 1) := by decide +kernel
theorem dX9_slips_86 : decode cX9_slips 86 = .ok (.lmul, 1) := by decide +kernel
theorem dX9_slips_87 : decode cX9_slips 87 = .ok (.lstore 8, 2) := by decide +kernel
theorem dX9_slips_89 : decode cX9_slips 89 = .ok (.iinc 10 1, 3) := by decide +kernel
theorem dX9_slips_92 : decode cX9_slips 92 = .ok (.goto (-34), 3) := by decide +kernel
theorem dX9_slips_95 : decode cX9_slips 95 = .ok (.iconst 0, 1) := by decide +kernel
theorem dX9_slips_96 : decode cX9_slips 96 = .ok (.istore 10, 2) := by decide +kernel
theorem dX9_slips_98 : decode cX9_slips 98 = .ok (.iload 10, 2) := by decide +kernel
theorem dX9_slips_100 : decode cX9_slips 100 = .ok (.iload 5, 2) := by decide +kernel
theorem dX9_slips_102 : decode cX9_slips 102 = .ok (.if_icmp .gt 146, 3) := by decide +kernel
theorem dX9_slips_105 : decode cX9_slips 105 = .ok (.iload 10, 2) := by decide +kernel
theorem dX9_slips_107 : decode cX9_slips 107 = .ok (.iload 5, 2) := by decide +kernel
theorem dX9_slips_109 : decode cX9_slips 109 = .ok (.iconst (-1), 1) := by decide +kernel
theorem dX9_slips_110 : decode cX9_slips 110 = .ok (.ixor, 1) := by decide +kernel
theorem dX9_slips_111 : decode cX9_slips 111 = .ok (.iand, 1) := by decide +kernel
theorem dX9_slips_112 : decode cX9_slips 112 = .ok (.ifCond .ne 130, 3) := by decide +kernel
theorem dX9_slips_115 : decode cX9_slips 115 = .ok (.iconst 0, 1) := by decide +kernel
theorem dX9_slips_116 : decode cX9_slips 116 = .ok (.istore 11, 2) := by decide +kernel
theorem dX9_slips_118 : decode cX9_slips 118 = .ok (.lconst 1, 1) := by decide +kernel
theorem dX9_slips_119 : decode cX9_slips 119 = .ok (.lstore 12, 2) := by decide +kernel
theorem dX9_slips_121 : decode cX9_slips 121 = .ok (.iconst 0, 1) := by decide +kernel
theorem dX9_slips_122 : decode cX9_slips 122 = .ok (.istore 14, 2) := by decide +kernel
theorem dX9_slips_124 : decode cX9_slips 124 = .ok (.iload 14, 2) := by decide +kernel
theorem dX9_slips_126 : decode cX9_slips 126 = .ok (.aload_n 0, 1) := by decide +kernel
theorem dX9_slips_127 : decode cX9_slips 127 = .ok (.getfield 69, 3) := by decide +kernel
theorem dX9_slips_130 : decode cX9_slips 130 = .ok (.if_icmp .ge 75, 3) := by decide +kernel
theorem dX9_slips_133 : decode cX9_slips 133 = .ok (.iload 11, 2) := by decide +kernel
theorem dX9_slips_135 : decode cX9_slips 135 = .ok (.iload 10, 2) := by decide +kernel
theorem dX9_slips_137 : decode cX9_slips 137 = .ok (.iload 14, 2) := by decide +kernel
theorem dX9_slips_139 : decode cX9_slips 139 = .ok (.invokestatic 189, 3) := by decide +kernel
theorem dX9_slips_142 : decode cX9_slips 142 = .ok (.ifCond .eq 14, 3) := by decide +kernel
theorem dX9_slips_145 : decode cX9_slips 145 = .ok (.aload_n 0, 1) := by decide +kernel
theorem dX9_slips_146 : decode cX9_slips 146 = .ok (.iload 14, 2) := by decide +kernel
theorem dX9_slips_148 : decode cX9_slips 148 = .ok (.iload 4, 2) := by decide +kernel
theorem dX9_slips_150 : decode cX9_slips 150 = .ok (.invokevirtual 192, 3) := by decide +kernel
theorem dX9_slips_153 : decode cX9_slips 153 = .ok (.goto 4, 3) := by decide +kernel
theorem dX9_slips_156 : decode cX9_slips 156 = .ok (.iconst 0, 1) := by decide +kernel
theorem dX9_slips_157 : decode cX9_slips 157 = .ok (.iadd, 1) := by decide +kernel
theorem dX9_slips_158 : decode cX9_slips 158 = .ok (.istore 11, 2) := by decide +kernel
theorem dX9_slips_160 : decode cX9_slips 160 = .ok (.lload 12, 2) := by decide +kernel
theorem dX9_slips_162 : decode cX9_slips 162 = .ok (.iload 5, 2) := by decide +kernel
theorem dX9_slips_164 : decode cX9_slips 164 = .ok (.iload 14, 2) := by decide +kernel
theorem dX9_slips_166 : decode cX9_slips 166 = .ok (.invokestatic 189, 3) := by decide +kernel
theorem dX9_slips_169 : decode cX9_slips 169 = .ok (.ifCond .ne 7, 3) := by decide +kernel
theorem dX9_slips_172 : decode cX9_slips 172 = .ok (.lconst 1, 1) := by decide +kernel
theorem dX9_slips_173 : decode cX9_slips 173 = .ok (.goto 23, 3) := by decide +kernel
theorem dX9_slips_176 : decode cX9_slips 176 = .ok (.iload 10, 2) := by decide +kernel
theorem dX9_slips_178 : decode cX9_slips 178 = .ok (.iload 14, 2) := by decide +kernel
theorem dX9_slips_180 : decode cX9_slips 180 = .ok (.invokestatic 189, 3) := by decide +kernel
theorem dX9_slips_183 : decode cX9_slips 183 = .ok (.ifCond .eq 11, 3) := by decide +kernel
theorem dX9_slips_186 : decode cX9_slips 186 = .ok (.bipush 10, 2) := by decide +kernel
theorem dX9_slips_188 : decode cX9_slips 188 = .ok (.iload_n 3, 1) := by decide +kernel
theorem dX9_slips_189 : decode cX9_slips 189 = .ok (.isub, 1) := by decide +kernel
theorem dX9_slips_190 : decode cX9_slips 190 = .ok (.i2l, 1) := by decide +kernel
theorem dX9_slips_191 : decode cX9_slips 191 = .ok (.goto 5, 3) := by decide +kernel
theorem dX9_slips_194 : decode cX9_slips 194 = .ok (.iload_n 3, 1) := by decide +kernel
theorem dX9_slips_195 : decode cX9_slips 195 = .ok (.i2l, 1) := by decide +kernel
theorem dX9_slips_196 : decode cX9_slips 196 = .ok (.lmul, 1) := by decide +kernel
theorem dX9_slips_197 : decode cX9_slips 197 = .ok (.lstore 12, 2) := by decide +kernel
theorem dX9_slips_199 : decode cX9_slips 199 = .ok (.iinc 14 1, 3) := by decide +kernel
theorem dX9_slips_202 : decode cX9_slips 202 = .ok (.goto (-78), 3) := by decide +kernel
theorem dX9_slips_205 : decode cX9_slips 205 = .ok (.lload 6, 2) := by decide +kernel
theorem dX9_slips_207 : decode cX9_slips 207 = .ok (.aload_n 0, 1) := by decide +kernel
theorem dX9_slips_208 : decode cX9_slips 208 = .ok (.getfield 22, 3) := by decide +kernel
theorem dX9_slips_211 : decode cX9_slips 211 = .ok (.iload_n 1, 1) := by decide +kernel
theorem dX9_slips_212 : decode cX9_slips 212 = .ok (.iaload, 1) := by decide +kernel
theorem dX9_slips_213 : decode cX9_slips 213 = .ok (.iload_n 2, 1) := by decide +kernel
theorem dX9_slips_214 : decode cX9_slips 214 = .ok (.invokestatic 189, 3) := by decide +kernel
theorem dX9_slips_217 : decode cX9_slips 217 = .ok (.ifCond .ne 16, 3) := by decide +kernel
theorem dX9_slips_220 : decode cX9_slips 220 = .ok (.iload 11, 2) := by decide +kernel
theorem dX9_slips_222 : decode cX9_slips 222 = .ok (.aload_n 0, 1) := by decide +kernel
theorem dX9_slips_223 : decode cX9_slips 223 = .ok (.iload_n 1, 1) := by decide +kernel
theorem dX9_slips_224 : decode cX9_slips 224 = .ok (.iload_n 2, 1) := by decide +kernel
theorem dX9_slips_225 : decode cX9_slips 225 = .ok (.iload 4, 2) := by decide +kernel
theorem dX9_slips_227 : decode cX9_slips 227 = .ok (.invokevirtual 198, 3) := by decide +kernel
theorem dX9_slips_230 : decode cX9_slips 230 = .ok (.if_icmp .lt 8, 3) := by decide +kernel
theorem dX9_slips_233 : decode cX9_slips 233 = .ok (.lload 12, 2) := by decide +kernel
theorem dX9_slips_235 : decode cX9_slips 235 = .ok (.goto 4, 3) := by decide +kernel
theorem dX9_slips_238 : decode cX9_slips 238 = .ok (.lconst 0, 1) := by decide +kernel
theorem dX9_slips_239 : decode cX9_slips 239 = .ok (.ladd, 1) := by decide +kernel
theorem dX9_slips_240 : decode cX9_slips 240 = .ok (.lstore 6, 2) := by decide +kernel
theorem dX9_slips_242 : decode cX9_slips 242 = .ok (.iinc 10 1, 3) := by decide +kernel
theorem dX9_slips_245 : decode cX9_slips 245 = .ok (.goto (-147), 3) := by decide +kernel
theorem dX9_slips_248 : decode cX9_slips 248 = .ok (.aload_n 0, 1) := by decide +kernel
theorem dX9_slips_249 : decode cX9_slips 249 = .ok (.lload 6, 2) := by decide +kernel
theorem dX9_slips_251 : decode cX9_slips 251 = .ok (.lload 8, 2) := by decide +kernel
theorem dX9_slips_253 : decode cX9_slips 253 = .ok (.invokevirtual 279, 3) := by decide +kernel
theorem dX9_slips_256 : decode cX9_slips 256 = .ok (.iconst 1, 1) := by decide +kernel
theorem dX9_slips_257 : decode cX9_slips 257 = .ok (.ireturn, 1) := by decide +kernel
theorem dX9_evenings_0 : decode cX9_evenings 0 = .ok (.iload_n 1, 1) := by decide +kernel
theorem dX9_evenings_1 : decode cX9_evenings 1 = .ok (.iconst 0, 1) := by decide +kernel
theorem dX9_evenings_2 : decode cX9_evenings 2 = .ok (.ldc_w 283, 3) := by decide +kernel
theorem dX9_evenings_5 : decode cX9_evenings 5 = .ok (.invokestatic 91, 3) := by decide +kernel
theorem dX9_evenings_8 : decode cX9_evenings 8 = .ok (.ifCond .eq 13, 3) := by decide +kernel
theorem dX9_evenings_11 : decode cX9_evenings 11 = .ok (.iload_n 2, 1) := by decide +kernel
theorem dX9_evenings_12 : decode cX9_evenings 12 = .ok (.iconst 0, 1) := by decide +kernel
theorem dX9_evenings_13 : decode cX9_evenings 13 = .ok (.bipush 60, 2) := by decide +kernel
theorem dX9_evenings_15 : decode cX9_evenings 15 = .ok (.invokestatic 91, 3) := by decide +kernel
theorem dX9_evenings_18 : decode cX9_evenings 18 = .ok (.ifCond .ne 8, 3) := by decide +kernel
theorem dX9_evenings_21 : decode cX9_evenings 21 = .ok (.aload_n 0, 1) := by decide +kernel
theorem dX9_evenings_22 : decode cX9_evenings 22 = .ok (.invokevirtual 95, 3) := by decide +kernel
theorem dX9_evenings_25 : decode cX9_evenings 25 = .ok (.ireturn, 1) := by decide +kernel
theorem dX9_evenings_26 : decode cX9_evenings 26 = .ok (.aload_n 0, 1) := by decide +kernel
theorem dX9_evenings_27 : decode cX9_evenings 27 = .ok (.aload_n 0, 1) := by decide +kernel
theorem dX9_evenings_28 : decode cX9_evenings 28 = .ok (.getfield 46, 3) := by decide +kernel
theorem dX9_evenings_31 : decode cX9_evenings 31 = .ok (.iconst 0, 1) := by decide +kernel
theorem dX9_evenings_32 : decode cX9_evenings 32 = .ok (.invokevirtual 207, 3) := by decide +kernel
theorem dX9_evenings_35 : decode cX9_evenings 35 = .ok (.iload_n 1, 1) := by decide +kernel
theorem dX9_evenings_36 : decode cX9_evenings 36 = .ok (.i2l, 1) := by decide +kernel
theorem dX9_evenings_37 : decode cX9_evenings 37 = .ok (.lstore_n 3, 1) := by decide +kernel
theorem dX9_evenings_38 : decode cX9_evenings 38 = .ok (.iconst 0, 1) := by decide +kernel
theorem dX9_evenings_39 : decode cX9_evenings 39 = .ok (.istore 5, 2) := by decide +kernel
theorem dX9_evenings_41 : decode cX9_evenings 41 = .ok (.iload 5, 2) := by decide +kernel
theorem dX9_evenings_43 : decode cX9_evenings 43 = .ok (.iload_n 2, 1) := by decide +kernel
theorem dX9_evenings_44 : decode cX9_evenings 44 = .ok (.if_icmp .ge 68, 3) := by decide +kernel
theorem dX9_evenings_47 : decode cX9_evenings 47 = .ok (.lload_n 3, 1) := by decide +kernel
theorem dX9_evenings_48 : decode cX9_evenings 48 = .ok (.ldc2_w 284, 3) := by decide +kernel
theorem dX9_evenings_51 : decode cX9_evenings 51 = .ok (.lmul, 1) := by decide +kernel
theorem dX9_evenings_52 : decode cX9_evenings 52 = .ok (.ldc2_w 286, 3) := by decide +kernel
theorem dX9_evenings_55 : decode cX9_evenings 55 = .ok (.ladd, 1) := by decide +kernel
theorem dX9_evenings_56 : decode cX9_evenings 56 = .ok (.ldc2_w 288, 3) := by decide +kernel
theorem dX9_evenings_59 : decode cX9_evenings 59 = .ok (.lrem, 1) := by decide +kernel
theorem dX9_evenings_60 : decode cX9_evenings 60 = .ok (.lstore_n 3, 1) := by decide +kernel
theorem dX9_evenings_61 : decode cX9_evenings 61 = .ok (.lload_n 3, 1) := by decide +kernel
theorem dX9_evenings_62 : decode cX9_evenings 62 = .ok (.ldc2_w 290, 3) := by decide +kernel
theorem dX9_evenings_65 : decode cX9_evenings 65 = .ok (.ldiv, 1) := by decide +kernel
theorem dX9_evenings_66 : decode cX9_evenings 66 = .ok (.ldc2_w 292, 3) := by decide +kernel
theorem dX9_evenings_69 : decode cX9_evenings 69 = .ok (.lrem, 1) := by decide +kernel
theorem dX9_evenings_70 : decode cX9_evenings 70 = .ok (.l2i, 1) := by decide +kernel
theorem dX9_evenings_71 : decode cX9_evenings 71 = .ok (.istore 6, 2) := by decide +kernel
theorem dX9_evenings_73 : decode cX9_evenings 73 = .ok (.lload_n 3, 1) := by decide +kernel
theorem dX9_evenings_74 : decode cX9_evenings 74 = .ok (.ldc2_w 294, 3) := by decide +kernel
theorem dX9_evenings_77 : decode cX9_evenings 77 = .ok (.ldiv, 1) := by decide +kernel
theorem dX9_evenings_78 : decode cX9_evenings 78 = .ok (.ldc2_w 296, 3) := by decide +kernel
theorem dX9_evenings_81 : decode cX9_evenings 81 = .ok (.lrem, 1) := by decide +kernel
theorem dX9_evenings_82 : decode cX9_evenings 82 = .ok (.l2i, 1) := by decide +kernel
theorem dX9_evenings_83 : decode cX9_evenings 83 = .ok (.istore 7, 2) := by decide +kernel
theorem dX9_evenings_85 : decode cX9_evenings 85 = .ok (.aload_n 0, 1) := by decide +kernel
theorem dX9_evenings_86 : decode cX9_evenings 86 = .ok (.iload 6, 2) := by decide +kernel
theorem dX9_evenings_88 : decode cX9_evenings 88 = .ok (.invokevirtual 216, 3) := by decide +kernel
theorem dX9_evenings_91 : decode cX9_evenings 91 = .ok (.ifCond .eq 11, 3) := by decide +kernel
theorem dX9_evenings_94 : decode cX9_evenings 94 = .ok (.aload_n 0, 1) := by decide +kernel
theorem dX9_evenings_95 : decode cX9_evenings 95 = .ok (.iload 6, 2) := by decide +kernel
theorem dX9_evenings_97 : decode cX9_evenings 97 = .ok (.iload 7, 2) := by decide +kernel
theorem dX9_evenings_99 : decode cX9_evenings 99 = .ok (.invokevirtual 228, 3) := by decide +kernel
theorem dX9_evenings_102 : decode cX9_evenings 102 = .ok (.aload_n 0, 1) := by decide +kernel
theorem dX9_evenings_103 : decode cX9_evenings 103 = .ok (.invokevirtual 204, 3) := by decide +kernel
theorem dX9_evenings_106 : decode cX9_evenings 106 = .ok (.iinc 5 1, 3) := by decide +kernel
theorem dX9_evenings_109 : decode cX9_evenings 109 = .ok (.goto (-68), 3) := by decide +kernel
theorem dX9_evenings_112 : decode cX9_evenings 112 = .ok (.aload_n 0, 1) := by decide +kernel
theorem dX9_evenings_113 : decode cX9_evenings 113 = .ok (.invokevirtual 235, 3) := by decide +kernel
theorem dX9_evenings_116 : decode cX9_evenings 116 = .ok (.istore 5, 2) := by decide +kernel
theorem dX9_evenings_118 : decode cX9_evenings 118 = .ok (.aload_n 0, 1) := by decide +kernel
theorem dX9_evenings_119 : decode cX9_evenings 119 = .ok (.aload_n 0, 1) := by decide +kernel
theorem dX9_evenings_120 : decode cX9_evenings 120 = .ok (.getfield 46, 3) := by decide +kernel
theorem dX9_evenings_123 : decode cX9_evenings 123 = .ok (.iconst 0, 1) := by decide +kernel
theorem dX9_evenings_124 : decode cX9_evenings 124 = .ok (.invokevirtual 241, 3) := by decide +kernel
theorem dX9_evenings_127 : decode cX9_evenings 127 = .ok (.iload 5, 2) := by decide +kernel
theorem dX9_evenings_129 : decode cX9_evenings 129 = .ok (.ireturn, 1) := by decide +kernel
theorem dX9_part_0 : decode cX9_part 0 = .ok (.iload_n 1, 1) := by decide +kernel
theorem dX9_part_1 : decode cX9_part 1 = .ok (.ifCond .ne 10, 3) := by decide +kernel
theorem dX9_part_4 : decode cX9_part 4 = .ok (.aload_n 0, 1) := by decide +kernel
theorem dX9_part_5 : decode cX9_part 5 = .ok (.getfield 274, 3) := by decide +kernel
theorem dX9_part_8 : decode cX9_part 8 = .ok (.goto 20, 3) := by decide +kernel
theorem dX9_part_11 : decode cX9_part 11 = .ok (.iload_n 1, 1) := by decide +kernel
theorem dX9_part_12 : decode cX9_part 12 = .ok (.iconst 1, 1) := by decide +kernel
theorem dX9_part_13 : decode cX9_part 13 = .ok (.if_icmp .ne 10, 3) := by decide +kernel
theorem dX9_part_16 : decode cX9_part 16 = .ok (.aload_n 0, 1) := by decide +kernel
theorem dX9_part_17 : decode cX9_part 17 = .ok (.getfield 56, 3) := by decide +kernel
theorem dX9_part_20 : decode cX9_part 20 = .ok (.goto 8, 3) := by decide +kernel
theorem dX9_part_23 : decode cX9_part 23 = .ok (.aload_n 0, 1) := by decide +kernel
theorem dX9_part_24 : decode cX9_part 24 = .ok (.invokevirtual 95, 3) := by decide +kernel
theorem dX9_part_27 : decode cX9_part 27 = .ok (.i2l, 1) := by decide +kernel
theorem dX9_part_28 : decode cX9_part 28 = .ok (.lreturn, 1) := by decide +kernel
theorem dX9_layAll_0 : decode cX9_layAll 0 = .ok (.aload_n 0, 1) := by decide +kernel
theorem dX9_layAll_1 : decode cX9_layAll 1 = .ok (.aload_n 1, 1) := by decide +kernel
theorem dX9_layAll_2 : decode cX9_layAll 2 = .ok (.iload_n 2, 1) := by decide +kernel
theorem dX9_layAll_3 : decode cX9_layAll 3 = .ok (.invokevirtual 207, 3) := by decide +kernel
theorem dX9_layAll_6 : decode cX9_layAll 6 = .ok (.aload_n 1, 1) := by decide +kernel
theorem dX9_layAll_7 : decode cX9_layAll 7 = .ok (.iload_n 2, 1) := by decide +kernel
theorem dX9_layAll_8 : decode cX9_layAll 8 = .ok (.bipush 22, 2) := by decide +kernel
theorem dX9_layAll_10 : decode cX9_layAll 10 = .ok (.iadd, 1) := by decide +kernel
theorem dX9_layAll_11 : decode cX9_layAll 11 = .ok (.aload_n 0, 1) := by decide +kernel
theorem dX9_layAll_12 : decode cX9_layAll 12 = .ok (.getfield 69, 3) := by decide +kernel
theorem dX9_layAll_15 : decode cX9_layAll 15 = .ok (.iastore, 1) := by decide +kernel
theorem dX9_layAll_16 : decode cX9_layAll 16 = .ok (.aload_n 1, 1) := by decide +kernel
theorem dX9_layAll_17 : decode cX9_layAll 17 = .ok (.iload_n 2, 1) := by decide +kernel
theorem dX9_layAll_18 : decode cX9_layAll 18 = .ok (.bipush 23, 2) := by decide +kernel
theorem dX9_layAll_20 : decode cX9_layAll 20 = .ok (.iadd, 1) := by decide +kernel
theorem dX9_layAll_21 : decode cX9_layAll 21 = .ok (.aload_n 0, 1) := by decide +kernel
theorem dX9_layAll_22 : decode cX9_layAll 22 = .ok (.getfield 79, 3) := by decide +kernel
theorem dX9_layAll_25 : decode cX9_layAll 25 = .ok (.iastore, 1) := by decide +kernel
theorem dX9_layAll_26 : decode cX9_layAll 26 = .ok (.aload_n 1, 1) := by decide +kernel
theorem dX9_layAll_27 : decode cX9_layAll 27 = .ok (.iload_n 2, 1) := by decide +kernel
theorem dX9_layAll_28 : decode cX9_layAll 28 = .ok (.bipush 24, 2) := by decide +kernel
theorem dX9_layAll_30 : decode cX9_layAll 30 = .ok (.iadd, 1) := by decide +kernel
theorem dX9_layAll_31 : decode cX9_layAll 31 = .ok (.aload_n 0, 1) := by decide +kernel
theorem dX9_layAll_32 : decode cX9_layAll 32 = .ok (.getfield 82, 3) := by decide +kernel
theorem dX9_layAll_35 : decode cX9_layAll 35 = .ok (.iastore, 1) := by decide +kernel
theorem dX9_layAll_36 : decode cX9_layAll 36 = .ok (.aload_n 1, 1) := by decide +kernel
theorem dX9_layAll_37 : decode cX9_layAll 37 = .ok (.iload_n 2, 1) := by decide +kernel
theorem dX9_layAll_38 : decode cX9_layAll 38 = .ok (.bipush 25, 2) := by decide +kernel
theorem dX9_layAll_40 : decode cX9_layAll 40 = .ok (.iadd, 1) := by decide +kernel
theorem dX9_layAll_41 : decode cX9_layAll 41 = .ok (.aload_n 0, 1) := by decide +kernel
theorem dX9_layAll_42 : decode cX9_layAll 42 = .ok (.getfield 85, 3) := by decide +kernel
theorem dX9_layAll_45 : decode cX9_layAll 45 = .ok (.iastore, 1) := by decide +kernel
theorem dX9_layAll_46 : decode cX9_layAll 46 = .ok (.aload_n 1, 1) := by decide +kernel
theorem dX9_layAll_47 : decode cX9_layAll 47 = .ok (.iload_n 2, 1) := by decide +kernel
theorem dX9_layAll_48 : decode cX9_layAll 48 = .ok (.bipush 26, 2) := by decide +kernel
theorem dX9_layAll_50 : decode cX9_layAll 50 = .ok (.iadd, 1) := by decide +kernel
theorem dX9_layAll_51 : decode cX9_layAll 51 = .ok (.aload_n 0, 1) := by decide +kernel
theorem dX9_layAll_52 : decode cX9_layAll 52 = .ok (.getfield 88, 3) := by decide +kernel
theorem dX9_layAll_55 : decode cX9_layAll 55 = .ok (.iastore, 1) := by decide +kernel
theorem dX9_layAll_56 : decode cX9_layAll 56 = .ok (.iconst 0, 1) := by decide +kernel
theorem dX9_layAll_57 : decode cX9_layAll 57 = .ok (.istore_n 3, 1) := by decide +kernel
theorem dX9_layAll_58 : decode cX9_layAll 58 = .ok (.iload_n 3, 1) := by decide +kernel
theorem dX9_layAll_59 : decode cX9_layAll 59 = .ok (.bipush 6, 2) := by decide +kernel
theorem dX9_layAll_61 : decode cX9_layAll 61 = .ok (.if_icmp .ge 37, 3) := by decide +kernel
theorem dX9_layAll_64 : decode cX9_layAll 64 = .ok (.aload_n 1, 1) := by decide +kernel
theorem dX9_layAll_65 : decode cX9_layAll 65 = .ok (.iload_n 2, 1) := by decide +kernel
theorem dX9_layAll_66 : decode cX9_layAll 66 = .ok (.bipush 27, 2) := by decide +kernel
theorem dX9_layAll_68 : decode cX9_layAll 68 = .ok (.iadd, 1) := by decide +kernel
theorem dX9_layAll_69 : decode cX9_layAll 69 = .ok (.iload_n 3, 1) := by decide +kernel
theorem dX9_layAll_70 : decode cX9_layAll 70 = .ok (.iadd, 1) := by decide +kernel
theorem dX9_layAll_71 : decode cX9_layAll 71 = .ok (.aload_n 0, 1) := by decide +kernel
theorem dX9_layAll_72 : decode cX9_layAll 72 = .ok (.getfield 13, 3) := by decide +kernel
theorem dX9_layAll_75 : decode cX9_layAll 75 = .ok (.iload_n 3, 1) := by decide +kernel
theorem dX9_layAll_76 : decode cX9_layAll 76 = .ok (.iaload, 1) := by decide +kernel
theorem dX9_layAll_77 : decode cX9_layAll 77 = .ok (.iastore, 1) := by decide +kernel
theorem dX9_layAll_78 : decode cX9_layAll 78 = .ok (.aload_n 1, 1) := by decide +kernel
theorem dX9_layAll_79 : decode cX9_layAll 79 = .ok (.iload_n 2, 1) := by decide +kernel
theorem dX9_layAll_80 : decode cX9_layAll 80 = .ok (.bipush 33, 2) := by decide +kernel
theorem dX9_layAll_82 : decode cX9_layAll 82 = .ok (.iadd, 1) := by decide +kernel
theorem dX9_layAll_83 : decode cX9_layAll 83 = .ok (.iload_n 3, 1) := by decide +kernel
theorem dX9_layAll_84 : decode cX9_layAll 84 = .ok (.iadd, 1) := by decide +kernel
theorem dX9_layAll_85 : decode cX9_layAll 85 = .ok (.aload_n 0, 1) := by decide +kernel
theorem dX9_layAll_86 : decode cX9_layAll 86 = .ok (.getfield 16, 3) := by decide +kernel
theorem dX9_layAll_89 : decode cX9_layAll 89 = .ok (.iload_n 3, 1) := by decide +kernel
theorem dX9_layAll_90 : decode cX9_layAll 90 = .ok (.iaload, 1) := by decide +kernel
theorem dX9_layAll_91 : decode cX9_layAll 91 = .ok (.iastore, 1) := by decide +kernel
theorem dX9_layAll_92 : decode cX9_layAll 92 = .ok (.iinc 3 1, 3) := by decide +kernel
theorem dX9_layAll_95 : decode cX9_layAll 95 = .ok (.goto (-37), 3) := by decide +kernel
theorem dX9_layAll_98 : decode cX9_layAll 98 = .ok (.iconst 0, 1) := by decide +kernel
theorem dX9_layAll_99 : decode cX9_layAll 99 = .ok (.istore_n 3, 1) := by decide +kernel
theorem dX9_layAll_100 : decode cX9_layAll 100 = .ok (.iload_n 3, 1) := by decide +kernel
theorem dX9_layAll_101 : decode cX9_layAll 101 = .ok (.bipush 18, 2) := by decide +kernel
theorem dX9_layAll_103 : decode cX9_layAll 103 = .ok (.if_icmp .ge 23, 3) := by decide +kernel
theorem dX9_layAll_106 : decode cX9_layAll 106 = .ok (.aload_n 1, 1) := by decide +kernel
theorem dX9_layAll_107 : decode cX9_layAll 107 = .ok (.iload_n 2, 1) := by decide +kernel
theorem dX9_layAll_108 : decode cX9_layAll 108 = .ok (.bipush 39, 2) := by decide +kernel
theorem dX9_layAll_110 : decode cX9_layAll 110 = .ok (.iadd, 1) := by decide +kernel
theorem dX9_layAll_111 : decode cX9_layAll 111 = .ok (.iload_n 3, 1) := by decide +kernel
theorem dX9_layAll_112 : decode cX9_layAll 112 = .ok (.iadd, 1) := by decide +kernel
theorem dX9_layAll_113 : decode cX9_layAll 113 = .ok (.aload_n 0, 1) := by decide +kernel
theorem dX9_layAll_114 : decode cX9_layAll 114 = .ok (.getfield 28, 3) := by decide +kernel
theorem dX9_layAll_117 : decode cX9_layAll 117 = .ok (.iload_n 3, 1) := by decide +kernel
theorem dX9_layAll_118 : decode cX9_layAll 118 = .ok (.iaload, 1) := by decide +kernel
theorem dX9_layAll_119 : decode cX9_layAll 119 = .ok (.iastore, 1) := by decide +kernel
theorem dX9_layAll_120 : decode cX9_layAll 120 = .ok (.iinc 3 1, 3) := by decide +kernel
theorem dX9_layAll_123 : decode cX9_layAll 123 = .ok (.goto (-23), 3) := by decide +kernel
theorem dX9_layAll_126 : decode cX9_layAll 126 = .ok (.iconst 0, 1) := by decide +kernel
theorem dX9_layAll_127 : decode cX9_layAll 127 = .ok (.istore_n 3, 1) := by decide +kernel
theorem dX9_layAll_128 : decode cX9_layAll 128 = .ok (.iload_n 3, 1) := by decide +kernel
theorem dX9_layAll_129 : decode cX9_layAll 129 = .ok (.bipush 24, 2) := by decide +kernel
theorem dX9_layAll_131 : decode cX9_layAll 131 = .ok (.if_icmp .ge 37, 3) := by decide +kernel
theorem dX9_layAll_134 : decode cX9_layAll 134 = .ok (.aload_n 1, 1) := by decide +kernel
theorem dX9_layAll_135 : decode cX9_layAll 135 = .ok (.iload_n 2, 1) := by decide +kernel
theorem dX9_layAll_136 : decode cX9_layAll 136 = .ok (.bipush 57, 2) := by decide +kernel
theorem dX9_layAll_138 : decode cX9_layAll 138 = .ok (.iadd, 1) := by decide +kernel
theorem dX9_layAll_139 : decode cX9_layAll 139 = .ok (.iload_n 3, 1) := by decide +kernel
theorem dX9_layAll_140 : decode cX9_layAll 140 = .ok (.iadd, 1) := by decide +kernel
theorem dX9_layAll_141 : decode cX9_layAll 141 = .ok (.aload_n 0, 1) := by decide +kernel
theorem dX9_layAll_142 : decode cX9_layAll 142 = .ok (.getfield 31, 3) := by decide +kernel
theorem dX9_layAll_145 : decode cX9_layAll 145 = .ok (.iload_n 3, 1) := by decide +kernel
theorem dX9_layAll_146 : decode cX9_layAll 146 = .ok (.iaload, 1) := by decide +kernel
theorem dX9_layAll_147 : decode cX9_layAll 147 = .ok (.iastore, 1) := by decide +kernel
theorem dX9_layAll_148 : decode cX9_layAll 148 = .ok (.aload_n 1, 1) := by decide +kernel
theorem dX9_layAll_149 : decode cX9_layAll 149 = .ok (.iload_n 2, 1) := by decide +kernel
theorem dX9_layAll_150 : decode cX9_layAll 150 = .ok (.bipush 81, 2) := by decide +kernel
theorem dX9_layAll_152 : decode cX9_layAll 152 = .ok (.iadd, 1) := by decide +kernel
theorem dX9_layAll_153 : decode cX9_layAll 153 = .ok (.iload_n 3, 1) := by decide +kernel
theorem dX9_layAll_154 : decode cX9_layAll 154 = .ok (.iadd, 1) := by decide +kernel
theorem dX9_layAll_155 : decode cX9_layAll 155 = .ok (.aload_n 0, 1) := by decide +kernel
theorem dX9_layAll_156 : decode cX9_layAll 156 = .ok (.getfield 34, 3) := by decide +kernel
theorem dX9_layAll_159 : decode cX9_layAll 159 = .ok (.iload_n 3, 1) := by decide +kernel
theorem dX9_layAll_160 : decode cX9_layAll 160 = .ok (.iaload, 1) := by decide +kernel
theorem dX9_layAll_161 : decode cX9_layAll 161 = .ok (.iastore, 1) := by decide +kernel
theorem dX9_layAll_162 : decode cX9_layAll 162 = .ok (.iinc 3 1, 3) := by decide +kernel
theorem dX9_layAll_165 : decode cX9_layAll 165 = .ok (.goto (-37), 3) := by decide +kernel
theorem dX9_layAll_168 : decode cX9_layAll 168 = .ok (.iconst 0, 1) := by decide +kernel
theorem dX9_layAll_169 : decode cX9_layAll 169 = .ok (.istore_n 3, 1) := by decide +kernel
theorem dX9_layAll_170 : decode cX9_layAll 170 = .ok (.iload_n 3, 1) := by decide +kernel
theorem dX9_layAll_171 : decode cX9_layAll 171 = .ok (.sipush 176, 3) := by decide +kernel
theorem dX9_layAll_174 : decode cX9_layAll 174 = .ok (.if_icmp .ge 23, 3) := by decide +kernel
theorem dX9_layAll_177 : decode cX9_layAll 177 = .ok (.aload_n 1, 1) := by decide +kernel
theorem dX9_layAll_178 : decode cX9_layAll 178 = .ok (.iload_n 2, 1) := by decide +kernel
theorem dX9_layAll_179 : decode cX9_layAll 179 = .ok (.bipush 105, 2) := by decide +kernel
theorem dX9_layAll_181 : decode cX9_layAll 181 = .ok (.iadd, 1) := by decide +kernel
theorem dX9_layAll_182 : decode cX9_layAll 182 = .ok (.iload_n 3, 1) := by decide +kernel
theorem dX9_layAll_183 : decode cX9_layAll 183 = .ok (.iadd, 1) := by decide +kernel
theorem dX9_layAll_184 : decode cX9_layAll 184 = .ok (.aload_n 0, 1) := by decide +kernel
theorem dX9_layAll_185 : decode cX9_layAll 185 = .ok (.getfield 43, 3) := by decide +kernel
theorem dX9_layAll_188 : decode cX9_layAll 188 = .ok (.iload_n 3, 1) := by decide +kernel
theorem dX9_layAll_189 : decode cX9_layAll 189 = .ok (.iaload, 1) := by decide +kernel
theorem dX9_layAll_190 : decode cX9_layAll 190 = .ok (.iastore, 1) := by decide +kernel
theorem dX9_layAll_191 : decode cX9_layAll 191 = .ok (.iinc 3 1, 3) := by decide +kernel
theorem dX9_layAll_194 : decode cX9_layAll 194 = .ok (.goto (-24), 3) := by decide +kernel
theorem dX9_layAll_197 : decode cX9_layAll 197 = .ok (.return_, 1) := by decide +kernel
theorem dX9_takeAll_0 : decode cX9_takeAll 0 = .ok (.aload_n 0, 1) := by decide +kernel
theorem dX9_takeAll_1 : decode cX9_takeAll 1 = .ok (.aload_n 1, 1) := by decide +kernel
theorem dX9_takeAll_2 : decode cX9_takeAll 2 = .ok (.iload_n 2, 1) := by decide +kernel
theorem dX9_takeAll_3 : decode cX9_takeAll 3 = .ok (.invokevirtual 241, 3) := by decide +kernel
theorem dX9_takeAll_6 : decode cX9_takeAll 6 = .ok (.aload_n 0, 1) := by decide +kernel
theorem dX9_takeAll_7 : decode cX9_takeAll 7 = .ok (.aload_n 1, 1) := by decide +kernel
theorem dX9_takeAll_8 : decode cX9_takeAll 8 = .ok (.iload_n 2, 1) := by decide +kernel
theorem dX9_takeAll_9 : decode cX9_takeAll 9 = .ok (.bipush 22, 2) := by decide +kernel
theorem dX9_takeAll_11 : decode cX9_takeAll 11 = .ok (.iadd, 1) := by decide +kernel
theorem dX9_takeAll_12 : decode cX9_takeAll 12 = .ok (.iaload, 1) := by decide +kernel
theorem dX9_takeAll_13 : decode cX9_takeAll 13 = .ok (.putfield 69, 3) := by decide +kernel
theorem dX9_takeAll_16 : decode cX9_takeAll 16 = .ok (.aload_n 0, 1) := by decide +kernel
theorem dX9_takeAll_17 : decode cX9_takeAll 17 = .ok (.aload_n 1, 1) := by decide +kernel
theorem dX9_takeAll_18 : decode cX9_takeAll 18 = .ok (.iload_n 2, 1) := by decide +kernel
theorem dX9_takeAll_19 : decode cX9_takeAll 19 = .ok (.bipush 23, 2) := by decide +kernel
theorem dX9_takeAll_21 : decode cX9_takeAll 21 = .ok (.iadd, 1) := by decide +kernel
theorem dX9_takeAll_22 : decode cX9_takeAll 22 = .ok (.iaload, 1) := by decide +kernel
theorem dX9_takeAll_23 : decode cX9_takeAll 23 = .ok (.putfield 79, 3) := by decide +kernel
theorem dX9_takeAll_26 : decode cX9_takeAll 26 = .ok (.aload_n 0, 1) := by decide +kernel
theorem dX9_takeAll_27 : decode cX9_takeAll 27 = .ok (.aload_n 1, 1) := by decide +kernel
theorem dX9_takeAll_28 : decode cX9_takeAll 28 = .ok (.iload_n 2, 1) := by decide +kernel
theorem dX9_takeAll_29 : decode cX9_takeAll 29 = .ok (.bipush 24, 2) := by decide +kernel
theorem dX9_takeAll_31 : decode cX9_takeAll 31 = .ok (.iadd, 1) := by decide +kernel
theorem dX9_takeAll_32 : decode cX9_takeAll 32 = .ok (.iaload, 1) := by decide +kernel
theorem dX9_takeAll_33 : decode cX9_takeAll 33 = .ok (.putfield 82, 3) := by decide +kernel
theorem dX9_takeAll_36 : decode cX9_takeAll 36 = .ok (.aload_n 0, 1) := by decide +kernel
theorem dX9_takeAll_37 : decode cX9_takeAll 37 = .ok (.aload_n 1, 1) := by decide +kernel
theorem dX9_takeAll_38 : decode cX9_takeAll 38 = .ok (.iload_n 2, 1) := by decide +kernel
theorem dX9_takeAll_39 : decode cX9_takeAll 39 = .ok (.bipush 25, 2) := by decide +kernel
theorem dX9_takeAll_41 : decode cX9_takeAll 41 = .ok (.iadd, 1) := by decide +kernel
theorem dX9_takeAll_42 : decode cX9_takeAll 42 = .ok (.iaload, 1) := by decide +kernel
theorem dX9_takeAll_43 : decode cX9_takeAll 43 = .ok (.putfield 85, 3) := by decide +kernel
theorem dX9_takeAll_46 : decode cX9_takeAll 46 = .ok (.aload_n 0, 1) := by decide +kernel
theorem dX9_takeAll_47 : decode cX9_takeAll 47 = .ok (.aload_n 1, 1) := by decide +kernel
theorem dX9_takeAll_48 : decode cX9_takeAll 48 = .ok (.iload_n 2, 1) := by decide +kernel
theorem dX9_takeAll_49 : decode cX9_takeAll 49 = .ok (.bipush 26, 2) := by decide +kernel
theorem dX9_takeAll_51 : decode cX9_takeAll 51 = .ok (.iadd, 1) := by decide +kernel
theorem dX9_takeAll_52 : decode cX9_takeAll 52 = .ok (.iaload, 1) := by decide +kernel
theorem dX9_takeAll_53 : decode cX9_takeAll 53 = .ok (.putfield 88, 3) := by decide +kernel
theorem dX9_takeAll_56 : decode cX9_takeAll 56 = .ok (.iconst 0, 1) := by decide +kernel
theorem dX9_takeAll_57 : decode cX9_takeAll 57 = .ok (.istore_n 3, 1) := by decide +kernel
theorem dX9_takeAll_58 : decode cX9_takeAll 58 = .ok (.iload_n 3, 1) := by decide +kernel
theorem dX9_takeAll_59 : decode cX9_takeAll 59 = .ok (.bipush 6, 2) := by decide +kernel
theorem dX9_takeAll_61 : decode cX9_takeAll 61 = .ok (.if_icmp .ge 37, 3) := by decide +kernel
theorem dX9_takeAll_64 : decode cX9_takeAll 64 = .ok (.aload_n 0, 1) := by decide +kernel
theorem dX9_takeAll_65 : decode cX9_takeAll 65 = .ok (.getfield 13, 3) := by decide +kernel
theorem dX9_takeAll_68 : decode cX9_takeAll 68 = .ok (.iload_n 3, 1) := by decide +kernel
theorem dX9_takeAll_69 : decode cX9_takeAll 69 = .ok (.aload_n 1, 1) := by decide +kernel
theorem dX9_takeAll_70 : decode cX9_takeAll 70 = .ok (.iload_n 2, 1) := by decide +kernel
theorem dX9_takeAll_71 : decode cX9_takeAll 71 = .ok (.bipush 27, 2) := by decide +kernel
theorem dX9_takeAll_73 : decode cX9_takeAll 73 = .ok (.iadd, 1) := by decide +kernel
theorem dX9_takeAll_74 : decode cX9_takeAll 74 = .ok (.iload_n 3, 1) := by decide +kernel
theorem dX9_takeAll_75 : decode cX9_takeAll 75 = .ok (.iadd, 1) := by decide +kernel
theorem dX9_takeAll_76 : decode cX9_takeAll 76 = .ok (.iaload, 1) := by decide +kernel
theorem dX9_takeAll_77 : decode cX9_takeAll 77 = .ok (.iastore, 1) := by decide +kernel
theorem dX9_takeAll_78 : decode cX9_takeAll 78 = .ok (.aload_n 0, 1) := by decide +kernel
theorem dX9_takeAll_79 : decode cX9_takeAll 79 = .ok (.getfield 16, 3) := by decide +kernel
theorem dX9_takeAll_82 : decode cX9_takeAll 82 = .ok (.iload_n 3, 1) := by decide +kernel
theorem dX9_takeAll_83 : decode cX9_takeAll 83 = .ok (.aload_n 1, 1) := by decide +kernel
theorem dX9_takeAll_84 : decode cX9_takeAll 84 = .ok (.iload_n 2, 1) := by decide +kernel
theorem dX9_takeAll_85 : decode cX9_takeAll 85 = .ok (.bipush 33, 2) := by decide +kernel
theorem dX9_takeAll_87 : decode cX9_takeAll 87 = .ok (.iadd, 1) := by decide +kernel
theorem dX9_takeAll_88 : decode cX9_takeAll 88 = .ok (.iload_n 3, 1) := by decide +kernel
theorem dX9_takeAll_89 : decode cX9_takeAll 89 = .ok (.iadd, 1) := by decide +kernel
theorem dX9_takeAll_90 : decode cX9_takeAll 90 = .ok (.iaload, 1) := by decide +kernel
theorem dX9_takeAll_91 : decode cX9_takeAll 91 = .ok (.iastore, 1) := by decide +kernel
theorem dX9_takeAll_92 : decode cX9_takeAll 92 = .ok (.iinc 3 1, 3) := by decide +kernel
theorem dX9_takeAll_95 : decode cX9_takeAll 95 = .ok (.goto (-37), 3) := by decide +kernel
theorem dX9_takeAll_98 : decode cX9_takeAll 98 = .ok (.iconst 0, 1) := by decide +kernel
theorem dX9_takeAll_99 : decode cX9_takeAll 99 = .ok (.istore_n 3, 1) := by decide +kernel
theorem dX9_takeAll_100 : decode cX9_takeAll 100 = .ok (.iload_n 3, 1) := by decide +kernel
theorem dX9_takeAll_101 : decode cX9_takeAll 101 = .ok (.bipush 18, 2) := by decide +kernel
theorem dX9_takeAll_103 : decode cX9_takeAll 103 = .ok (.if_icmp .ge 23, 3) := by decide +kernel
theorem dX9_takeAll_106 : decode cX9_takeAll 106 = .ok (.aload_n 0, 1) := by decide +kernel
theorem dX9_takeAll_107 : decode cX9_takeAll 107 = .ok (.getfield 28, 3) := by decide +kernel
theorem dX9_takeAll_110 : decode cX9_takeAll 110 = .ok (.iload_n 3, 1) := by decide +kernel
theorem dX9_takeAll_111 : decode cX9_takeAll 111 = .ok (.aload_n 1, 1) := by decide +kernel
theorem dX9_takeAll_112 : decode cX9_takeAll 112 = .ok (.iload_n 2, 1) := by decide +kernel
theorem dX9_takeAll_113 : decode cX9_takeAll 113 = .ok (.bipush 39, 2) := by decide +kernel
theorem dX9_takeAll_115 : decode cX9_takeAll 115 = .ok (.iadd, 1) := by decide +kernel
theorem dX9_takeAll_116 : decode cX9_takeAll 116 = .ok (.iload_n 3, 1) := by decide +kernel
theorem dX9_takeAll_117 : decode cX9_takeAll 117 = .ok (.iadd, 1) := by decide +kernel
theorem dX9_takeAll_118 : decode cX9_takeAll 118 = .ok (.iaload, 1) := by decide +kernel
theorem dX9_takeAll_119 : decode cX9_takeAll 119 = .ok (.iastore, 1) := by decide +kernel
theorem dX9_takeAll_120 : decode cX9_takeAll 120 = .ok (.iinc 3 1, 3) := by decide +kernel
theorem dX9_takeAll_123 : decode cX9_takeAll 123 = .ok (.goto (-23), 3) := by decide +kernel
theorem dX9_takeAll_126 : decode cX9_takeAll 126 = .ok (.iconst 0, 1) := by decide +kernel
theorem dX9_takeAll_127 : decode cX9_takeAll 127 = .ok (.istore_n 3, 1) := by decide +kernel
theorem dX9_takeAll_128 : decode cX9_takeAll 128 = .ok (.iload_n 3, 1) := by decide +kernel
theorem dX9_takeAll_129 : decode cX9_takeAll 129 = .ok (.bipush 24, 2) := by decide +kernel
theorem dX9_takeAll_131 : decode cX9_takeAll 131 = .ok (.if_icmp .ge 37, 3) := by decide +kernel
theorem dX9_takeAll_134 : decode cX9_takeAll 134 = .ok (.aload_n 0, 1) := by decide +kernel
theorem dX9_takeAll_135 : decode cX9_takeAll 135 = .ok (.getfield 31, 3) := by decide +kernel
theorem dX9_takeAll_138 : decode cX9_takeAll 138 = .ok (.iload_n 3, 1) := by decide +kernel
theorem dX9_takeAll_139 : decode cX9_takeAll 139 = .ok (.aload_n 1, 1) := by decide +kernel
theorem dX9_takeAll_140 : decode cX9_takeAll 140 = .ok (.iload_n 2, 1) := by decide +kernel
theorem dX9_takeAll_141 : decode cX9_takeAll 141 = .ok (.bipush 57, 2) := by decide +kernel
theorem dX9_takeAll_143 : decode cX9_takeAll 143 = .ok (.iadd, 1) := by decide +kernel
theorem dX9_takeAll_144 : decode cX9_takeAll 144 = .ok (.iload_n 3, 1) := by decide +kernel
theorem dX9_takeAll_145 : decode cX9_takeAll 145 = .ok (.iadd, 1) := by decide +kernel
theorem dX9_takeAll_146 : decode cX9_takeAll 146 = .ok (.iaload, 1) := by decide +kernel
theorem dX9_takeAll_147 : decode cX9_takeAll 147 = .ok (.iastore, 1) := by decide +kernel
theorem dX9_takeAll_148 : decode cX9_takeAll 148 = .ok (.aload_n 0, 1) := by decide +kernel
theorem dX9_takeAll_149 : decode cX9_takeAll 149 = .ok (.getfield 34, 3) := by decide +kernel
theorem dX9_takeAll_152 : decode cX9_takeAll 152 = .ok (.iload_n 3, 1) := by decide +kernel
theorem dX9_takeAll_153 : decode cX9_takeAll 153 = .ok (.aload_n 1, 1) := by decide +kernel
theorem dX9_takeAll_154 : decode cX9_takeAll 154 = .ok (.iload_n 2, 1) := by decide +kernel
theorem dX9_takeAll_155 : decode cX9_takeAll 155 = .ok (.bipush 81, 2) := by decide +kernel
theorem dX9_takeAll_157 : decode cX9_takeAll 157 = .ok (.iadd, 1) := by decide +kernel
theorem dX9_takeAll_158 : decode cX9_takeAll 158 = .ok (.iload_n 3, 1) := by decide +kernel
theorem dX9_takeAll_159 : decode cX9_takeAll 159 = .ok (.iadd, 1) := by decide +kernel
theorem dX9_takeAll_160 : decode cX9_takeAll 160 = .ok (.iaload, 1) := by decide +kernel
theorem dX9_takeAll_161 : decode cX9_takeAll 161 = .ok (.iastore, 1) := by decide +kernel
theorem dX9_takeAll_162 : decode cX9_takeAll 162 = .ok (.iinc 3 1, 3) := by decide +kernel
theorem dX9_takeAll_165 : decode cX9_takeAll 165 = .ok (.goto (-37), 3) := by decide +kernel
theorem dX9_takeAll_168 : decode cX9_takeAll 168 = .ok (.iconst 0, 1) := by decide +kernel
theorem dX9_takeAll_169 : decode cX9_takeAll 169 = .ok (.istore_n 3, 1) := by decide +kernel
theorem dX9_takeAll_170 : decode cX9_takeAll 170 = .ok (.iload_n 3, 1) := by decide +kernel
theorem dX9_takeAll_171 : decode cX9_takeAll 171 = .ok (.sipush 176, 3) := by decide +kernel
theorem dX9_takeAll_174 : decode cX9_takeAll 174 = .ok (.if_icmp .ge 23, 3) := by decide +kernel
theorem dX9_takeAll_177 : decode cX9_takeAll 177 = .ok (.aload_n 0, 1) := by decide +kernel
theorem dX9_takeAll_178 : decode cX9_takeAll 178 = .ok (.getfield 43, 3) := by decide +kernel
theorem dX9_takeAll_181 : decode cX9_takeAll 181 = .ok (.iload_n 3, 1) := by decide +kernel
theorem dX9_takeAll_182 : decode cX9_takeAll 182 = .ok (.aload_n 1, 1) := by decide +kernel
theorem dX9_takeAll_183 : decode cX9_takeAll 183 = .ok (.iload_n 2, 1) := by decide +kernel
theorem dX9_takeAll_184 : decode cX9_takeAll 184 = .ok (.bipush 105, 2) := by decide +kernel
theorem dX9_takeAll_186 : decode cX9_takeAll 186 = .ok (.iadd, 1) := by decide +kernel
theorem dX9_takeAll_187 : decode cX9_takeAll 187 = .ok (.iload_n 3, 1) := by decide +kernel
theorem dX9_takeAll_188 : decode cX9_takeAll 188 = .ok (.iadd, 1) := by decide +kernel
theorem dX9_takeAll_189 : decode cX9_takeAll 189 = .ok (.iaload, 1) := by decide +kernel
theorem dX9_takeAll_190 : decode cX9_takeAll 190 = .ok (.iastore, 1) := by decide +kernel
theorem dX9_takeAll_191 : decode cX9_takeAll 191 = .ok (.iinc 3 1, 3) := by decide +kernel
theorem dX9_takeAll_194 : decode cX9_takeAll 194 = .ok (.goto (-24), 3) := by decide +kernel
theorem dX9_takeAll_197 : decode cX9_takeAll 197 = .ok (.return_, 1) := by decide +kernel
theorem dX9_image_0 : decode cX9_image 0 = .ok (.iload_n 1, 1) := by decide +kernel
theorem dX9_image_1 : decode cX9_image 1 = .ok (.iconst 0, 1) := by decide +kernel
theorem dX9_image_2 : decode cX9_image 2 = .ok (.iconst 1, 1) := by decide +kernel
theorem dX9_image_3 : decode cX9_image 3 = .ok (.invokestatic 91, 3) := by decide +kernel
theorem dX9_image_6 : decode cX9_image 6 = .ok (.ifCond .ne 8, 3) := by decide +kernel
theorem dX9_image_9 : decode cX9_image 9 = .ok (.aload_n 0, 1) := by decide +kernel
theorem dX9_image_10 : decode cX9_image 10 = .ok (.invokevirtual 95, 3) := by decide +kernel
theorem dX9_image_13 : decode cX9_image 13 = .ok (.ireturn, 1) := by decide +kernel
theorem dX9_image_14 : decode cX9_image 14 = .ok (.aload_n 0, 1) := by decide +kernel
theorem dX9_image_15 : decode cX9_image 15 = .ok (.getfield 63, 3) := by decide +kernel
theorem dX9_image_18 : decode cX9_image 18 = .ok (.iload_n 1, 1) := by decide +kernel
theorem dX9_image_19 : decode cX9_image 19 = .ok (.iconst 1, 1) := by decide +kernel
theorem dX9_image_20 : decode cX9_image 20 = .ok (.iastore, 1) := by decide +kernel
theorem dX9_image_21 : decode cX9_image 21 = .ok (.aload_n 0, 1) := by decide +kernel
theorem dX9_image_22 : decode cX9_image 22 = .ok (.aload_n 0, 1) := by decide +kernel
theorem dX9_image_23 : decode cX9_image 23 = .ok (.getfield 60, 3) := by decide +kernel
theorem dX9_image_26 : decode cX9_image 26 = .ok (.sipush 300, 3) := by decide +kernel
theorem dX9_image_29 : decode cX9_image 29 = .ok (.iload_n 1, 1) := by decide +kernel
theorem dX9_image_30 : decode cX9_image 30 = .ok (.imul, 1) := by decide +kernel
theorem dX9_image_31 : decode cX9_image 31 = .ok (.invokevirtual 169, 3) := by decide +kernel
theorem dX9_image_34 : decode cX9_image 34 = .ok (.iconst 1, 1) := by decide +kernel
theorem dX9_image_35 : decode cX9_image 35 = .ok (.ireturn, 1) := by decide +kernel
theorem dX9_from_0 : decode cX9_from 0 = .ok (.iload_n 1, 1) := by decide +kernel
theorem dX9_from_1 : decode cX9_from 1 = .ok (.iconst 0, 1) := by decide +kernel
theorem dX9_from_2 : decode cX9_from 2 = .ok (.iconst 1, 1) := by decide +kernel
theorem dX9_from_3 : decode cX9_from 3 = .ok (.invokestatic 91, 3) := by decide +kernel
theorem dX9_from_6 : decode cX9_from 6 = .ok (.ifCond .ne 8, 3) := by decide +kernel
theorem dX9_from_9 : decode cX9_from 9 = .ok (.aload_n 0, 1) := by decide +kernel
theorem dX9_from_10 : decode cX9_from 10 = .ok (.invokevirtual 95, 3) := by decide +kernel
theorem dX9_from_13 : decode cX9_from 13 = .ok (.ireturn, 1) := by decide +kernel
theorem dX9_from_14 : decode cX9_from 14 = .ok (.aload_n 0, 1) := by decide +kernel
theorem dX9_from_15 : decode cX9_from 15 = .ok (.getfield 63, 3) := by decide +kernel
theorem dX9_from_18 : decode cX9_from 18 = .ok (.iload_n 1, 1) := by decide +kernel
theorem dX9_from_19 : decode cX9_from 19 = .ok (.iaload, 1) := by decide +kernel
theorem dX9_from_20 : decode cX9_from 20 = .ok (.ifCond .ne 8, 3) := by decide +kernel
theorem dX9_from_23 : decode cX9_from 23 = .ok (.aload_n 0, 1) := by decide +kernel
theorem dX9_from_24 : decode cX9_from 24 = .ok (.invokevirtual 222, 3) := by decide +kernel
theorem dX9_from_27 : decode cX9_from 27 = .ok (.ireturn, 1) := by decide +kernel
theorem dX9_from_28 : decode cX9_from 28 = .ok (.aload_n 0, 1) := by decide +kernel
theorem dX9_from_29 : decode cX9_from 29 = .ok (.aload_n 0, 1) := by decide +kernel
theorem dX9_from_30 : decode cX9_from 30 = .ok (.getfield 60, 3) := by decide +kernel
theorem dX9_from_33 : decode cX9_from 33 = .ok (.sipush 300, 3) := by decide +kernel
theorem dX9_from_36 : decode cX9_from 36 = .ok (.iload_n 1, 1) := by decide +kernel
theorem dX9_from_37 : decode cX9_from 37 = .ok (.imul, 1) := by decide +kernel
theorem dX9_from_38 : decode cX9_from 38 = .ok (.invokevirtual 176, 3) := by decide +kernel
theorem dX9_from_41 : decode cX9_from 41 = .ok (.iconst 1, 1) := by decide +kernel
theorem dX9_from_42 : decode cX9_from 42 = .ok (.ireturn, 1) := by decide +kernel
theorem dX9_status_0 : decode cX9_status 0 = .ok (.iload_n 1, 1) := by decide +kernel
theorem dX9_status_1 : decode cX9_status 1 = .ok (.iconst 0, 1) := by decide +kernel
theorem dX9_status_2 : decode cX9_status 2 = .ok (.iconst 2, 1) := by decide +kernel
theorem dX9_status_3 : decode cX9_status 3 = .ok (.invokestatic 91, 3) := by decide +kernel
theorem dX9_status_6 : decode cX9_status 6 = .ok (.ifCond .ne 15, 3) := by decide +kernel
theorem dX9_status_9 : decode cX9_status 9 = .ok (.aload_n 0, 1) := by decide +kernel
theorem dX9_status_10 : decode cX9_status 10 = .ok (.getfield 1, 3) := by decide +kernel
theorem dX9_status_13 : decode cX9_status 13 = .ok (.iconst 0, 1) := by decide +kernel
theorem dX9_status_14 : decode cX9_status 14 = .ok (.dup2, 1) := by decide +kernel
theorem dX9_status_15 : decode cX9_status 15 = .ok (.iaload, 1) := by decide +kernel
theorem dX9_status_16 : decode cX9_status 16 = .ok (.iconst 1, 1) := by decide +kernel
theorem dX9_status_17 : decode cX9_status 17 = .ok (.iadd, 1) := by decide +kernel
theorem dX9_status_18 : decode cX9_status 18 = .ok (.iastore, 1) := by decide +kernel
theorem dX9_status_19 : decode cX9_status 19 = .ok (.iconst (-1), 1) := by decide +kernel
theorem dX9_status_20 : decode cX9_status 20 = .ok (.ireturn, 1) := by decide +kernel
theorem dX9_status_21 : decode cX9_status 21 = .ok (.aload_n 0, 1) := by decide +kernel
theorem dX9_status_22 : decode cX9_status 22 = .ok (.getfield 1, 3) := by decide +kernel
theorem dX9_status_25 : decode cX9_status 25 = .ok (.iload_n 1, 1) := by decide +kernel
theorem dX9_status_26 : decode cX9_status 26 = .ok (.iaload, 1) := by decide +kernel
theorem dX9_status_27 : decode cX9_status 27 = .ok (.ireturn, 1) := by decide +kernel
theorem dX9_topMany_0 : decode cX9_topMany 0 = .ok (.iconst 0, 1) := by decide +kernel
theorem dX9_topMany_1 : decode cX9_topMany 1 = .ok (.istore_n 1, 1) := by decide +kernel
theorem dX9_topMany_2 : decode cX9_topMany 2 = .ok (.iconst 0, 1) := by decide +kernel
theorem dX9_topMany_3 : decode cX9_topMany 3 = .ok (.istore_n 2, 1) := by decide +kernel
theorem dX9_topMany_4 : decode cX9_topMany 4 = .ok (.iload_n 2, 1) := by decide +kernel
theorem dX9_topMany_5 : decode cX9_topMany 5 = .ok (.aload_n 0, 1) := by decide +kernel
theorem dX9_topMany_6 : decode cX9_topMany 6 = .ok (.getfield 69, 3) := by decide +kernel
theorem dX9_topMany_9 : decode cX9_topMany 9 = .ok (.if_icmp .ge 28, 3) := by decide +kernel
theorem dX9_topMany_12 : decode cX9_topMany 12 = .ok (.iload_n 1, 1) := by decide +kernel
theorem dX9_topMany_13 : decode cX9_topMany 13 = .ok (.aload_n 0, 1) := by decide +kernel
theorem dX9_topMany_14 : decode cX9_topMany 14 = .ok (.getfield 19, 3) := by decide +kernel
theorem dX9_topMany_17 : decode cX9_topMany 17 = .ok (.iload_n 2, 1) := by decide +kernel
theorem dX9_topMany_18 : decode cX9_topMany 18 = .ok (.iaload, 1) := by decide +kernel
theorem dX9_topMany_19 : decode cX9_topMany 19 = .ok (.bipush 8, 2) := by decide +kernel
theorem dX9_topMany_21 : decode cX9_topMany 21 = .ok (.if_icmp .ne 7, 3) := by decide +kernel
theorem dX9_topMany_24 : decode cX9_topMany 24 = .ok (.iconst 1, 1) := by decide +kernel
theorem dX9_topMany_25 : decode cX9_topMany 25 = .ok (.goto 4, 3) := by decide +kernel
theorem dX9_topMany_28 : decode cX9_topMany 28 = .ok (.iconst 0, 1) := by decide +kernel
theorem dX9_topMany_29 : decode cX9_topMany 29 = .ok (.iadd, 1) := by decide +kernel
theorem dX9_topMany_30 : decode cX9_topMany 30 = .ok (.istore_n 1, 1) := by decide +kernel
theorem dX9_topMany_31 : decode cX9_topMany 31 = .ok (.iinc 2 1, 3) := by decide +kernel
theorem dX9_topMany_34 : decode cX9_topMany 34 = .ok (.goto (-30), 3) := by decide +kernel
theorem dX9_topMany_37 : decode cX9_topMany 37 = .ok (.iload_n 1, 1) := by decide +kernel
theorem dX9_topMany_38 : decode cX9_topMany 38 = .ok (.ireturn, 1) := by decide +kernel
theorem dX9_countOf_0 : decode cX9_countOf 0 = .ok (.iload_n 1, 1) := by decide +kernel
theorem dX9_countOf_1 : decode cX9_countOf 1 = .ok (.tableswitch 99 0 8 #[51, 56, 61, 66, 74, 79, 84, 89, 94], 51) := by decide +kernel
theorem dX9_countOf_52 : decode cX9_countOf 52 = .ok (.aload_n 0, 1) := by decide +kernel
theorem dX9_countOf_53 : decode cX9_countOf 53 = .ok (.getfield 69, 3) := by decide +kernel
theorem dX9_countOf_56 : decode cX9_countOf 56 = .ok (.ireturn, 1) := by decide +kernel
theorem dX9_countOf_57 : decode cX9_countOf 57 = .ok (.aload_n 0, 1) := by decide +kernel
theorem dX9_countOf_58 : decode cX9_countOf 58 = .ok (.getfield 73, 3) := by decide +kernel
theorem dX9_countOf_61 : decode cX9_countOf 61 = .ok (.ireturn, 1) := by decide +kernel
theorem dX9_countOf_62 : decode cX9_countOf 62 = .ok (.aload_n 0, 1) := by decide +kernel
theorem dX9_countOf_63 : decode cX9_countOf 63 = .ok (.invokevirtual 235, 3) := by decide +kernel
theorem dX9_countOf_66 : decode cX9_countOf 66 = .ok (.ireturn, 1) := by decide +kernel
theorem dX9_countOf_67 : decode cX9_countOf 67 = .ok (.aload_n 0, 1) := by decide +kernel
theorem dX9_countOf_68 : decode cX9_countOf 68 = .ok (.getfield 76, 3) := by decide +kernel
theorem dX9_countOf_71 : decode cX9_countOf 71 = .ok (.invokestatic 201, 3) := by decide +kernel
theorem dX9_countOf_74 : decode cX9_countOf 74 = .ok (.ireturn, 1) := by decide +kernel
theorem dX9_countOf_75 : decode cX9_countOf 75 = .ok (.aload_n 0, 1) := by decide +kernel
theorem dX9_countOf_76 : decode cX9_countOf 76 = .ok (.invokevirtual 298, 3) := by decide +kernel
theorem dX9_countOf_79 : decode cX9_countOf 79 = .ok (.ireturn, 1) := by decide +kernel
theorem dX9_countOf_80 : decode cX9_countOf 80 = .ok (.aload_n 0, 1) := by decide +kernel
theorem dX9_countOf_81 : decode cX9_countOf 81 = .ok (.getfield 79, 3) := by decide +kernel
theorem dX9_countOf_84 : decode cX9_countOf 84 = .ok (.ireturn, 1) := by decide +kernel
theorem dX9_countOf_85 : decode cX9_countOf 85 = .ok (.aload_n 0, 1) := by decide +kernel
theorem dX9_countOf_86 : decode cX9_countOf 86 = .ok (.getfield 82, 3) := by decide +kernel
theorem dX9_countOf_89 : decode cX9_countOf 89 = .ok (.ireturn, 1) := by decide +kernel
theorem dX9_countOf_90 : decode cX9_countOf 90 = .ok (.aload_n 0, 1) := by decide +kernel
theorem dX9_countOf_91 : decode cX9_countOf 91 = .ok (.getfield 85, 3) := by decide +kernel
theorem dX9_countOf_94 : decode cX9_countOf 94 = .ok (.ireturn, 1) := by decide +kernel
theorem dX9_countOf_95 : decode cX9_countOf 95 = .ok (.aload_n 0, 1) := by decide +kernel
theorem dX9_countOf_96 : decode cX9_countOf 96 = .ok (.getfield 88, 3) := by decide +kernel
theorem dX9_countOf_99 : decode cX9_countOf 99 = .ok (.ireturn, 1) := by decide +kernel
theorem dX9_countOf_100 : decode cX9_countOf 100 = .ok (.aload_n 0, 1) := by decide +kernel
theorem dX9_countOf_101 : decode cX9_countOf 101 = .ok (.getfield 106, 3) := by decide +kernel
theorem dX9_countOf_104 : decode cX9_countOf 104 = .ok (.ireturn, 1) := by decide +kernel
theorem dX9_count_0 : decode cX9_count 0 = .ok (.iload_n 1, 1) := by decide +kernel
theorem dX9_count_1 : decode cX9_count 1 = .ok (.iconst 0, 1) := by decide +kernel
theorem dX9_count_2 : decode cX9_count 2 = .ok (.bipush 9, 2) := by decide +kernel
theorem dX9_count_4 : decode cX9_count 4 = .ok (.invokestatic 91, 3) := by decide +kernel
theorem dX9_count_7 : decode cX9_count 7 = .ok (.ifCond .eq 11, 3) := by decide +kernel
theorem dX9_count_10 : decode cX9_count 10 = .ok (.aload_n 0, 1) := by decide +kernel
theorem dX9_count_11 : decode cX9_count 11 = .ok (.iload_n 1, 1) := by decide +kernel
theorem dX9_count_12 : decode cX9_count 12 = .ok (.invokevirtual 301, 3) := by decide +kernel
theorem dX9_count_15 : decode cX9_count 15 = .ok (.goto 7, 3) := by decide +kernel
theorem dX9_count_18 : decode cX9_count 18 = .ok (.aload_n 0, 1) := by decide +kernel
theorem dX9_count_19 : decode cX9_count 19 = .ok (.invokevirtual 95, 3) := by decide +kernel
theorem dX9_count_22 : decode cX9_count 22 = .ok (.ireturn, 1) := by decide +kernel
theorem dX9_mix_0 : decode cX9_mix 0 = .ok (.aload_n 0, 1) := by decide +kernel
theorem dX9_mix_1 : decode cX9_mix 1 = .ok (.ldc2_w 304, 3) := by decide +kernel
theorem dX9_mix_4 : decode cX9_mix 4 = .ok (.aload_n 0, 1) := by decide +kernel
theorem dX9_mix_5 : decode cX9_mix 5 = .ok (.getfield 306, 3) := by decide +kernel
theorem dX9_mix_8 : decode cX9_mix 8 = .ok (.lmul, 1) := by decide +kernel
theorem dX9_mix_9 : decode cX9_mix 9 = .ok (.lload_n 1, 1) := by decide +kernel
theorem dX9_mix_10 : decode cX9_mix 10 = .ok (.ladd, 1) := by decide +kernel
theorem dX9_mix_11 : decode cX9_mix 11 = .ok (.putfield 306, 3) := by decide +kernel
theorem dX9_mix_14 : decode cX9_mix 14 = .ok (.return_, 1) := by decide +kernel
theorem dX9_digest_0 : decode cX9_digest 0 = .ok (.aload_n 0, 1) := by decide +kernel
theorem dX9_digest_1 : decode cX9_digest 1 = .ok (.ldc2_w 309, 3) := by decide +kernel
theorem dX9_digest_4 : decode cX9_digest 4 = .ok (.putfield 306, 3) := by decide +kernel
theorem dX9_digest_7 : decode cX9_digest 7 = .ok (.iconst 0, 1) := by decide +kernel
theorem dX9_digest_8 : decode cX9_digest 8 = .ok (.istore_n 1, 1) := by decide +kernel
theorem dX9_digest_9 : decode cX9_digest 9 = .ok (.iload_n 1, 1) := by decide +kernel
theorem dX9_digest_10 : decode cX9_digest 10 = .ok (.bipush 9, 2) := by decide +kernel
theorem dX9_digest_12 : decode cX9_digest 12 = .ok (.if_icmp .gt 19, 3) := by decide +kernel
theorem dX9_digest_15 : decode cX9_digest 15 = .ok (.aload_n 0, 1) := by decide +kernel
theorem dX9_digest_16 : decode cX9_digest 16 = .ok (.aload_n 0, 1) := by decide +kernel
theorem dX9_digest_17 : decode cX9_digest 17 = .ok (.iload_n 1, 1) := by decide +kernel
theorem dX9_digest_18 : decode cX9_digest 18 = .ok (.invokevirtual 301, 3) := by decide +kernel
theorem dX9_digest_21 : decode cX9_digest 21 = .ok (.i2l, 1) := by decide +kernel
theorem dX9_digest_22 : decode cX9_digest 22 = .ok (.invokevirtual 311, 3) := by decide +kernel
theorem dX9_digest_25 : decode cX9_digest 25 = .ok (.iinc 1 1, 3) := by decide +kernel
theorem dX9_digest_28 : decode cX9_digest 28 = .ok (.goto (-19), 3) := by decide +kernel
theorem dX9_digest_31 : decode cX9_digest 31 = .ok (.iconst 0, 1) := by decide +kernel
theorem dX9_digest_32 : decode cX9_digest 32 = .ok (.istore_n 1, 1) := by decide +kernel
theorem dX9_digest_33 : decode cX9_digest 33 = .ok (.iload_n 1, 1) := by decide +kernel
theorem dX9_digest_34 : decode cX9_digest 34 = .ok (.bipush 8, 2) := by decide +kernel
theorem dX9_digest_36 : decode cX9_digest 36 = .ok (.if_icmp .ge 20, 3) := by decide +kernel
theorem dX9_digest_39 : decode cX9_digest 39 = .ok (.aload_n 0, 1) := by decide +kernel
theorem dX9_digest_40 : decode cX9_digest 40 = .ok (.aload_n 0, 1) := by decide +kernel
theorem dX9_digest_41 : decode cX9_digest 41 = .ok (.getfield 25, 3) := by decide +kernel
theorem dX9_digest_44 : decode cX9_digest 44 = .ok (.iload_n 1, 1) := by decide +kernel
theorem dX9_digest_45 : decode cX9_digest 45 = .ok (.iaload, 1) := by decide +kernel
theorem dX9_digest_46 : decode cX9_digest 46 = .ok (.i2l, 1) := by decide +kernel
theorem dX9_digest_47 : decode cX9_digest 47 = .ok (.invokevirtual 311, 3) := by decide +kernel
theorem dX9_digest_50 : decode cX9_digest 50 = .ok (.iinc 1 1, 3) := by decide +kernel
theorem dX9_digest_53 : decode cX9_digest 53 = .ok (.goto (-20), 3) := by decide +kernel
theorem dX9_digest_56 : decode cX9_digest 56 = .ok (.aload_n 0, 1) := by decide +kernel
theorem dX9_digest_57 : decode cX9_digest 57 = .ok (.aload_n 0, 1) := by decide +kernel
theorem dX9_digest_58 : decode cX9_digest 58 = .ok (.getfield 76, 3) := by decide +kernel
theorem dX9_digest_61 : decode cX9_digest 61 = .ok (.i2l, 1) := by decide +kernel
theorem dX9_digest_62 : decode cX9_digest 62 = .ok (.invokevirtual 311, 3) := by decide +kernel
theorem dX9_digest_65 : decode cX9_digest 65 = .ok (.iconst 0, 1) := by decide +kernel
theorem dX9_digest_66 : decode cX9_digest 66 = .ok (.istore_n 1, 1) := by decide +kernel
theorem dX9_digest_67 : decode cX9_digest 67 = .ok (.iload_n 1, 1) := by decide +kernel
theorem dX9_digest_68 : decode cX9_digest 68 = .ok (.aload_n 0, 1) := by decide +kernel
theorem dX9_digest_69 : decode cX9_digest 69 = .ok (.getfield 69, 3) := by decide +kernel
theorem dX9_digest_72 : decode cX9_digest 72 = .ok (.if_icmp .ge 53, 3) := by decide +kernel
theorem dX9_digest_75 : decode cX9_digest 75 = .ok (.aload_n 0, 1) := by decide +kernel
theorem dX9_digest_76 : decode cX9_digest 76 = .ok (.aload_n 0, 1) := by decide +kernel
theorem dX9_digest_77 : decode cX9_digest 77 = .ok (.getfield 13, 3) := by decide +kernel
theorem dX9_digest_80 : decode cX9_digest 80 = .ok (.iload_n 1, 1) := by decide +kernel
theorem dX9_digest_81 : decode cX9_digest 81 = .ok (.iaload, 1) := by decide +kernel
theorem dX9_digest_82 : decode cX9_digest 82 = .ok (.i2l, 1) := by decide +kernel
theorem dX9_digest_83 : decode cX9_digest 83 = .ok (.invokevirtual 311, 3) := by decide +kernel
theorem dX9_digest_86 : decode cX9_digest 86 = .ok (.aload_n 0, 1) := by decide +kernel
theorem dX9_digest_87 : decode cX9_digest 87 = .ok (.aload_n 0, 1) := by decide +kernel
theorem dX9_digest_88 : decode cX9_digest 88 = .ok (.getfield 16, 3) := by decide +kernel
theorem dX9_digest_91 : decode cX9_digest 91 = .ok (.iload_n 1, 1) := by decide +kernel
theorem dX9_digest_92 : decode cX9_digest 92 = .ok (.iaload, 1) := by decide +kernel
theorem dX9_digest_93 : decode cX9_digest 93 = .ok (.i2l, 1) := by decide +kernel
theorem dX9_digest_94 : decode cX9_digest 94 = .ok (.invokevirtual 311, 3) := by decide +kernel
theorem dX9_digest_97 : decode cX9_digest 97 = .ok (.aload_n 0, 1) := by decide +kernel
theorem dX9_digest_98 : decode cX9_digest 98 = .ok (.aload_n 0, 1) := by decide +kernel
theorem dX9_digest_99 : decode cX9_digest 99 = .ok (.getfield 19, 3) := by decide +kernel
theorem dX9_digest_102 : decode cX9_digest 102 = .ok (.iload_n 1, 1) := by decide +kernel
theorem dX9_digest_103 : decode cX9_digest 103 = .ok (.iaload, 1) := by decide +kernel
theorem dX9_digest_104 : decode cX9_digest 104 = .ok (.i2l, 1) := by decide +kernel
theorem dX9_digest_105 : decode cX9_digest 105 = .ok (.invokevirtual 311, 3) := by decide +kernel
theorem dX9_digest_108 : decode cX9_digest 108 = .ok (.aload_n 0, 1) := by decide +kernel
theorem dX9_digest_109 : decode cX9_digest 109 = .ok (.aload_n 0, 1) := by decide +kernel
theorem dX9_digest_110 : decode cX9_digest 110 = .ok (.getfield 22, 3) := by decide +kernel
theorem dX9_digest_113 : decode cX9_digest 113 = .ok (.iload_n 1, 1) := by decide +kernel
theorem dX9_digest_114 : decode cX9_digest 114 = .ok (.iaload, 1) := by decide +kernel
theorem dX9_digest_115 : decode cX9_digest 115 = .ok (.i2l, 1) := by decide +kernel
theorem dX9_digest_116 : decode cX9_digest 116 = .ok (.invokevirtual 311, 3) := by decide +kernel
theorem dX9_digest_119 : decode cX9_digest 119 = .ok (.iinc 1 1, 3) := by decide +kernel
theorem dX9_digest_122 : decode cX9_digest 122 = .ok (.goto (-55), 3) := by decide +kernel
theorem dX9_digest_125 : decode cX9_digest 125 = .ok (.iconst 0, 1) := by decide +kernel
theorem dX9_digest_126 : decode cX9_digest 126 = .ok (.istore_n 1, 1) := by decide +kernel
theorem dX9_digest_127 : decode cX9_digest 127 = .ok (.iload_n 1, 1) := by decide +kernel
theorem dX9_digest_128 : decode cX9_digest 128 = .ok (.iconst 3, 1) := by decide +kernel
theorem dX9_digest_129 : decode cX9_digest 129 = .ok (.aload_n 0, 1) := by decide +kernel
theorem dX9_digest_130 : decode cX9_digest 130 = .ok (.getfield 79, 3) := by decide +kernel
theorem dX9_digest_133 : decode cX9_digest 133 = .ok (.imul, 1) := by decide +kernel
theorem dX9_digest_134 : decode cX9_digest 134 = .ok (.if_icmp .ge 20, 3) := by decide +kernel
theorem dX9_digest_137 : decode cX9_digest 137 = .ok (.aload_n 0, 1) := by decide +kernel
theorem dX9_digest_138 : decode cX9_digest 138 = .ok (.aload_n 0, 1) := by decide +kernel
theorem dX9_digest_139 : decode cX9_digest 139 = .ok (.getfield 28, 3) := by decide +kernel
theorem dX9_digest_142 : decode cX9_digest 142 = .ok (.iload_n 1, 1) := by decide +kernel
theorem dX9_digest_143 : decode cX9_digest 143 = .ok (.iaload, 1) := by decide +kernel
theorem dX9_digest_144 : decode cX9_digest 144 = .ok (.i2l, 1) := by decide +kernel
theorem dX9_digest_145 : decode cX9_digest 145 = .ok (.invokevirtual 311, 3) := by decide +kernel
theorem dX9_digest_148 : decode cX9_digest 148 = .ok (.iinc 1 1, 3) := by decide +kernel
theorem dX9_digest_151 : decode cX9_digest 151 = .ok (.goto (-24), 3) := by decide +kernel
theorem dX9_digest_154 : decode cX9_digest 154 = .ok (.iconst 0, 1) := by decide +kernel
theorem dX9_digest_155 : decode cX9_digest 155 = .ok (.istore_n 1, 1) := by decide +kernel
theorem dX9_digest_156 : decode cX9_digest 156 = .ok (.iload_n 1, 1) := by decide +kernel
theorem dX9_digest_157 : decode cX9_digest 157 = .ok (.iconst 4, 1) := by decide +kernel
theorem dX9_digest_158 : decode cX9_digest 158 = .ok (.aload_n 0, 1) := by decide +kernel
theorem dX9_digest_159 : decode cX9_digest 159 = .ok (.getfield 82, 3) := by decide +kernel
theorem dX9_digest_162 : decode cX9_digest 162 = .ok (.imul, 1) := by decide +kernel
theorem dX9_digest_163 : decode cX9_digest 163 = .ok (.if_icmp .ge 20, 3) := by decide +kernel
theorem dX9_digest_166 : decode cX9_digest 166 = .ok (.aload_n 0, 1) := by decide +kernel
theorem dX9_digest_167 : decode cX9_digest 167 = .ok (.aload_n 0, 1) := by decide +kernel
theorem dX9_digest_168 : decode cX9_digest 168 = .ok (.getfield 31, 3) := by decide +kernel
theorem dX9_digest_171 : decode cX9_digest 171 = .ok (.iload_n 1, 1) := by decide +kernel
theorem dX9_digest_172 : decode cX9_digest 172 = .ok (.iaload, 1) := by decide +kernel
theorem dX9_digest_173 : decode cX9_digest 173 = .ok (.i2l, 1) := by decide +kernel
theorem dX9_digest_174 : decode cX9_digest 174 = .ok (.invokevirtual 311, 3) := by decide +kernel
theorem dX9_digest_177 : decode cX9_digest 177 = .ok (.iinc 1 1, 3) := by decide +kernel
theorem dX9_digest_180 : decode cX9_digest 180 = .ok (.goto (-24), 3) := by decide +kernel
theorem dX9_digest_183 : decode cX9_digest 183 = .ok (.iconst 0, 1) := by decide +kernel
theorem dX9_digest_184 : decode cX9_digest 184 = .ok (.istore_n 1, 1) := by decide +kernel
theorem dX9_digest_185 : decode cX9_digest 185 = .ok (.iload_n 1, 1) := by decide +kernel
theorem dX9_digest_186 : decode cX9_digest 186 = .ok (.iconst 4, 1) := by decide +kernel
theorem dX9_digest_187 : decode cX9_digest 187 = .ok (.aload_n 0, 1) := by decide +kernel
theorem dX9_digest_188 : decode cX9_digest 188 = .ok (.getfield 85, 3) := by decide +kernel
theorem dX9_digest_191 : decode cX9_digest 191 = .ok (.imul, 1) := by decide +kernel
theorem dX9_digest_192 : decode cX9_digest 192 = .ok (.if_icmp .ge 20, 3) := by decide +kernel
theorem dX9_digest_195 : decode cX9_digest 195 = .ok (.aload_n 0, 1) := by decide +kernel
theorem dX9_digest_196 : decode cX9_digest 196 = .ok (.aload_n 0, 1) := by decide +kernel
theorem dX9_digest_197 : decode cX9_digest 197 = .ok (.getfield 34, 3) := by decide +kernel
theorem dX9_digest_200 : decode cX9_digest 200 = .ok (.iload_n 1, 1) := by decide +kernel
theorem dX9_digest_201 : decode cX9_digest 201 = .ok (.iaload, 1) := by decide +kernel
theorem dX9_digest_202 : decode cX9_digest 202 = .ok (.i2l, 1) := by decide +kernel
theorem dX9_digest_203 : decode cX9_digest 203 = .ok (.invokevirtual 311, 3) := by decide +kernel
theorem dX9_digest_206 : decode cX9_digest 206 = .ok (.iinc 1 1, 3) := by decide +kernel
theorem dX9_digest_209 : decode cX9_digest 209 = .ok (.goto (-24), 3) := by decide +kernel
theorem dX9_digest_212 : decode cX9_digest 212 = .ok (.aload_n 0, 1) := by decide +kernel
theorem dX9_digest_213 : decode cX9_digest 213 = .ok (.aload_n 0, 1) := by decide +kernel
theorem dX9_digest_214 : decode cX9_digest 214 = .ok (.getfield 274, 3) := by decide +kernel
theorem dX9_digest_217 : decode cX9_digest 217 = .ok (.invokevirtual 311, 3) := by decide +kernel
theorem dX9_digest_220 : decode cX9_digest 220 = .ok (.aload_n 0, 1) := by decide +kernel
theorem dX9_digest_221 : decode cX9_digest 221 = .ok (.aload_n 0, 1) := by decide +kernel
theorem dX9_digest_222 : decode cX9_digest 222 = .ok (.getfield 56, 3) := by decide +kernel
theorem dX9_digest_225 : decode cX9_digest 225 = .ok (.invokevirtual 311, 3) := by decide +kernel
theorem dX9_digest_228 : decode cX9_digest 228 = .ok (.aload_n 0, 1) := by decide +kernel
theorem dX9_digest_229 : decode cX9_digest 229 = .ok (.getfield 306, 3) := by decide +kernel
theorem dX9_digest_232 : decode cX9_digest 232 = .ok (.lreturn, 1) := by decide +kernel
end
section
theorem dL_law_0 : decode cL_law 0 = .ok (.new 7, 3) := by decide +kernel
theorem dL_law_3 : decode cL_law 3 = .ok (.dup, 1) := by decide +kernel
theorem dL_law_4 : decode cL_law 4 = .ok (.invokespecial 9, 3) := by decide +kernel
theorem dL_law_7 : decode cL_law 7 = .ok (.astore_n 1, 1) := by decide +kernel
theorem dL_law_8 : decode cL_law 8 = .ok (.new 10, 3) := by decide +kernel
theorem dL_law_11 : decode cL_law 11 = .ok (.dup, 1) := by decide +kernel
theorem dL_law_12 : decode cL_law 12 = .ok (.invokespecial 12, 3) := by decide +kernel
theorem dL_law_15 : decode cL_law 15 = .ok (.astore_n 2, 1) := by decide +kernel
theorem dL_law_16 : decode cL_law 16 = .ok (.iconst 0, 1) := by decide +kernel
theorem dL_law_17 : decode cL_law 17 = .ok (.istore_n 3, 1) := by decide +kernel
theorem dL_law_18 : decode cL_law 18 = .ok (.iload_n 3, 1) := by decide +kernel
theorem dL_law_19 : decode cL_law 19 = .ok (.aload_n 0, 1) := by decide +kernel
theorem dL_law_20 : decode cL_law 20 = .ok (.arraylength, 1) := by decide +kernel
theorem dL_law_21 : decode cL_law 21 = .ok (.iconst 5, 1) := by decide +kernel
theorem dL_law_22 : decode cL_law 22 = .ok (.isub, 1) := by decide +kernel
theorem dL_law_23 : decode cL_law 23 = .ok (.if_icmp .gt 1262, 3) := by decide +kernel
theorem dL_law_26 : decode cL_law 26 = .ok (.aload_n 0, 1) := by decide +kernel
theorem dL_law_27 : decode cL_law 27 = .ok (.iload_n 3, 1) := by decide +kernel
theorem dL_law_28 : decode cL_law 28 = .ok (.iaload, 1) := by decide +kernel
theorem dL_law_29 : decode cL_law 29 = .ok (.bipush 63, 2) := by decide +kernel
theorem dL_law_31 : decode cL_law 31 = .ok (.iand, 1) := by decide +kernel
theorem dL_law_32 : decode cL_law 32 = .ok (.tableswitch 1247 0 36 #[164, 177, 210, 233, 246, 259, 292, 325, 348, 381, 414, 427, 460, 493, 536, 559, 582, 615, 648, 691, 734, 767, 820, 873, 896, 919, 942, 965, 988, 1041, 1084, 1117, 1141, 1164, 1187, 1210, 1233], 164) := by decide +kernel
theorem dL_law_196 : decode cL_law 196 = .ok (.aload_n 1, 1) := by decide +kernel
theorem dL_law_197 : decode cL_law 197 = .ok (.invokevirtual 13, 3) := by decide +kernel
theorem dL_law_200 : decode cL_law 200 = .ok (.aload_n 2, 1) := by decide +kernel
theorem dL_law_201 : decode cL_law 201 = .ok (.invokevirtual 17, 3) := by decide +kernel
theorem dL_law_204 : decode cL_law 204 = .ok (.if_icmp .eq 1075, 3) := by decide +kernel
theorem dL_law_207 : decode cL_law 207 = .ok (.iconst 0, 1) := by decide +kernel
theorem dL_law_208 : decode cL_law 208 = .ok (.ireturn, 1) := by decide +kernel
theorem dL_law_209 : decode cL_law 209 = .ok (.aload_n 1, 1) := by decide +kernel
theorem dL_law_210 : decode cL_law 210 = .ok (.aload_n 0, 1) := by decide +kernel
theorem dL_law_211 : decode cL_law 211 = .ok (.iload_n 3, 1) := by decide +kernel
theorem dL_law_212 : decode cL_law 212 = .ok (.iconst 1, 1) := by decide +kernel
theorem dL_law_213 : decode cL_law 213 = .ok (.iadd, 1) := by decide +kernel
theorem dL_law_214 : decode cL_law 214 = .ok (.iaload, 1) := by decide +kernel
theorem dL_law_215 : decode cL_law 215 = .ok (.aload_n 0, 1) := by decide +kernel
theorem dL_law_216 : decode cL_law 216 = .ok (.iload_n 3, 1) := by decide +kernel
theorem dL_law_217 : decode cL_law 217 = .ok (.iconst 2, 1) := by decide +kernel
theorem dL_law_218 : decode cL_law 218 = .ok (.iadd, 1) := by decide +kernel
theorem dL_law_219 : decode cL_law 219 = .ok (.iaload, 1) := by decide +kernel
theorem dL_law_220 : decode cL_law 220 = .ok (.invokevirtual 18, 3) := by decide +kernel
theorem dL_law_223 : decode cL_law 223 = .ok (.aload_n 2, 1) := by decide +kernel
theorem dL_law_224 : decode cL_law 224 = .ok (.aload_n 0, 1) := by decide +kernel
theorem dL_law_225 : decode cL_law 225 = .ok (.iload_n 3, 1) := by decide +kernel
theorem dL_law_226 : decode cL_law 226 = .ok (.iconst 1, 1) := by decide +kernel
theorem dL_law_227 : decode cL_law 227 = .ok (.iadd, 1) := by decide +kernel
theorem dL_law_228 : decode cL_law 228 = .ok (.iaload, 1) := by decide +kernel
theorem dL_law_229 : decode cL_law 229 = .ok (.aload_n 0, 1) := by decide +kernel
theorem dL_law_230 : decode cL_law 230 = .ok (.iload_n 3, 1) := by decide +kernel
theorem dL_law_231 : decode cL_law 231 = .ok (.iconst 2, 1) := by decide +kernel
theorem dL_law_232 : decode cL_law 232 = .ok (.iadd, 1) := by decide +kernel
theorem dL_law_233 : decode cL_law 233 = .ok (.iaload, 1) := by decide +kernel
theorem dL_law_234 : decode cL_law 234 = .ok (.invokevirtual 22, 3) := by decide +kernel
theorem dL_law_237 : decode cL_law 237 = .ok (.if_icmp .eq 1042, 3) := by decide +kernel
theorem dL_law_240 : decode cL_law 240 = .ok (.iconst 0, 1) := by decide +kernel
theorem dL_law_241 : decode cL_law 241 = .ok (.ireturn, 1) := by decide +kernel
theorem dL_law_242 : decode cL_law 242 = .ok (.aload_n 1, 1) := by decide +kernel
theorem dL_law_243 : decode cL_law 243 = .ok (.aload_n 0, 1) := by decide +kernel
theorem dL_law_244 : decode cL_law 244 = .ok (.iload_n 3, 1) := by decide +kernel
theorem dL_law_245 : decode cL_law 245 = .ok (.iconst 1, 1) := by decide +kernel
theorem dL_law_246 : decode cL_law 246 = .ok (.iadd, 1) := by decide +kernel
theorem dL_law_247 : decode cL_law 247 = .ok (.iaload, 1) := by decide +kernel
theorem dL_law_248 : decode cL_law 248 = .ok (.invokevirtual 23, 3) := by decide +kernel
theorem dL_law_251 : decode cL_law 251 = .ok (.aload_n 2, 1) := by decide +kernel
theorem dL_law_252 : decode cL_law 252 = .ok (.aload_n 0, 1) := by decide +kernel
theorem dL_law_253 : decode cL_law 253 = .ok (.iload_n 3, 1) := by decide +kernel
theorem dL_law_254 : decode cL_law 254 = .ok (.iconst 1, 1) := by decide +kernel
theorem dL_law_255 : decode cL_law 255 = .ok (.iadd, 1) := by decide +kernel
theorem dL_law_256 : decode cL_law 256 = .ok (.iaload, 1) := by decide +kernel
theorem dL_law_257 : decode cL_law 257 = .ok (.invokevirtual 27, 3) := by decide +kernel
theorem dL_law_260 : decode cL_law 260 = .ok (.if_icmp .eq 1019, 3) := by decide +kernel
theorem dL_law_263 : decode cL_law 263 = .ok (.iconst 0, 1) := by decide +kernel
theorem dL_law_264 : decode cL_law 264 = .ok (.ireturn, 1) := by decide +kernel
theorem dL_law_265 : decode cL_law 265 = .ok (.aload_n 1, 1) := by decide +kernel
theorem dL_law_266 : decode cL_law 266 = .ok (.invokevirtual 28, 3) := by decide +kernel
theorem dL_law_269 : decode cL_law 269 = .ok (.aload_n 2, 1) := by decide +kernel
theorem dL_law_270 : decode cL_law 270 = .ok (.invokevirtual 31, 3) := by decide +kernel
theorem dL_law_273 : decode cL_law 273 = .ok (.if_icmp .eq 1006, 3) := by decide +kernel
theorem dL_law_276 : decode cL_law 276 = .ok (.iconst 0, 1) := by decide +kernel
theorem dL_law_277 : decode cL_law 277 = .ok (.ireturn, 1) := by decide +kernel
theorem dL_law_278 : decode cL_law 278 = .ok (.aload_n 1, 1) := by decide +kernel
theorem dL_law_279 : decode cL_law 279 = .ok (.invokevirtual 32, 3) := by decide +kernel
theorem dL_law_282 : decode cL_law 282 = .ok (.aload_n 2, 1) := by decide +kernel
theorem dL_law_283 : decode cL_law 283 = .ok (.invokevirtual 35, 3) := by decide +kernel
theorem dL_law_286 : decode cL_law 286 = .ok (.if_icmp .eq 993, 3) := by decide +kernel
theorem dL_law_289 : decode cL_law 289 = .ok (.iconst 0, 1) := by decide +kernel
theorem dL_law_290 : decode cL_law 290 = .ok (.ireturn, 1) := by decide +kernel
theorem dL_law_291 : decode cL_law 291 = .ok (.aload_n 1, 1) := by decide +kernel
theorem dL_law_292 : decode cL_law 292 = .ok (.aload_n 0, 1) := by decide +kernel
theorem dL_law_293 : decode cL_law 293 = .ok (.iload_n 3, 1) := by decide +kernel
theorem dL_law_294 : decode cL_law 294 = .ok (.iconst 1, 1) := by decide +kernel
theorem dL_law_295 : decode cL_law 295 = .ok (.iadd, 1) := by decide +kernel
theorem dL_law_296 : decode cL_law 296 = .ok (.iaload, 1) := by decide +kernel
theorem dL_law_297 : decode cL_law 297 = .ok (.aload_n 0, 1) := by decide +kernel
theorem dL_law_298 : decode cL_law 298 = .ok (.iload_n 3, 1) := by decide +kernel
theorem dL_law_299 : decode cL_law 299 = .ok (.iconst 2, 1) := by decide +kernel
theorem dL_law_300 : decode cL_law 300 = .ok (.iadd, 1) := by decide +kernel
theorem dL_law_301 : decode cL_law 301 = .ok (.iaload, 1) := by decide +kernel
theorem dL_law_302 : decode cL_law 302 = .ok (.invokevirtual 36, 3) := by decide +kernel
theorem dL_law_305 : decode cL_law 305 = .ok (.aload_n 2, 1) := by decide +kernel
theorem dL_law_306 : decode cL_law 306 = .ok (.aload_n 0, 1) := by decide +kernel
theorem dL_law_307 : decode cL_law 307 = .ok (.iload_n 3, 1) := by decide +kernel
theorem dL_law_308 : decode cL_law 308 = .ok (.iconst 1, 1) := by decide +kernel
theorem dL_law_309 : decode cL_law 309 = .ok (.iadd, 1) := by decide +kernel
theorem dL_law_310 : decode cL_law 310 = .ok (.iaload, 1) := by decide +kernel
theorem dL_law_311 : decode cL_law 311 = .ok (.aload_n 0, 1) := by decide +kernel
theorem dL_law_312 : decode cL_law 312 = .ok (.iload_n 3, 1) := by decide +kernel
theorem dL_law_313 : decode cL_law 313 = .ok (.iconst 2, 1) := by decide +kernel
theorem dL_law_314 : decode cL_law 314 = .ok (.iadd, 1) := by decide +kernel
theorem dL_law_315 : decode cL_law 315 = .ok (.iaload, 1) := by decide +kernel
theorem dL_law_316 : decode cL_law 316 = .ok (.invokevirtual 39, 3) := by decide +kernel
theorem dL_law_319 : decode cL_law 319 = .ok (.if_icmp .eq 960, 3) := by decide +kernel
theorem dL_law_322 : decode cL_law 322 = .ok (.iconst 0, 1) := by decide +kernel
theorem dL_law_323 : decode cL_law 323 = .ok (.ireturn, 1) := by decide +kernel
theorem dL_law_324 : decode cL_law 324 = .ok (.aload_n 1, 1) := by decide +kernel
theorem dL_law_325 : decode cL_law 325 = .ok (.aload_n 0, 1) := by decide +kernel
theorem dL_law_326 : decode cL_law 326 = .ok (.iload_n 3, 1) := by decide +kernel
theorem dL_law_327 : decode cL_law 327 = .ok (.iconst 1, 1) := by decide +kernel
theorem dL_law_328 : decode cL_law 328 = .ok (.iadd, 1) := by decide +kernel
theorem dL_law_329 : decode cL_law 329 = .ok (.iaload, 1) := by decide +kernel
theorem dL_law_330 : decode cL_law 330 = .ok (.aload_n 0, 1) := by decide +kernel
theorem dL_law_331 : decode cL_law 331 = .ok (.iload_n 3, 1) := by decide +kernel
theorem dL_law_332 : decode cL_law 332 = .ok (.iconst 2, 1) := by decide +kernel
theorem dL_law_333 : decode cL_law 333 = .ok (.iadd, 1) := by decide +kernel
theorem dL_law_334 : decode cL_law 334 = .ok (.iaload, 1) := by decide +kernel
theorem dL_law_335 : decode cL_law 335 = .ok (.invokevirtual 40, 3) := by decide +kernel
theorem dL_law_338 : decode cL_law 338 = .ok (.aload_n 2, 1) := by decide +kernel
theorem dL_law_339 : decode cL_law 339 = .ok (.aload_n 0, 1) := by decide +kernel
theorem dL_law_340 : decode cL_law 340 = .ok (.iload_n 3, 1) := by decide +kernel
theorem dL_law_341 : decode cL_law 341 = .ok (.iconst 1, 1) := by decide +kernel
theorem dL_law_342 : decode cL_law 342 = .ok (.iadd, 1) := by decide +kernel
theorem dL_law_343 : decode cL_law 343 = .ok (.iaload, 1) := by decide +kernel
theorem dL_law_344 : decode cL_law 344 = .ok (.aload_n 0, 1) := by decide +kernel
theorem dL_law_345 : decode cL_law 345 = .ok (.iload_n 3, 1) := by decide +kernel
theorem dL_law_346 : decode cL_law 346 = .ok (.iconst 2, 1) := by decide +kernel
theorem dL_law_347 : decode cL_law 347 = .ok (.iadd, 1) := by decide +kernel
theorem dL_law_348 : decode cL_law 348 = .ok (.iaload, 1) := by decide +kernel
theorem dL_law_349 : decode cL_law 349 = .ok (.invokevirtual 43, 3) := by decide +kernel
theorem dL_law_352 : decode cL_law 352 = .ok (.if_icmp .eq 927, 3) := by decide +kernel
theorem dL_law_355 : decode cL_law 355 = .ok (.iconst 0, 1) := by decide +kernel
theorem dL_law_356 : decode cL_law 356 = .ok (.ireturn, 1) := by decide +kernel
theorem dL_law_357 : decode cL_law 357 = .ok (.aload_n 1, 1) := by decide +kernel
theorem dL_law_358 : decode cL_law 358 = .ok (.aload_n 0, 1) := by decide +kernel
theorem dL_law_359 : decode cL_law 359 = .ok (.iload_n 3, 1) := by decide +kernel
theorem dL_law_360 : decode cL_law 360 = .ok (.iconst 1, 1) := by decide +kernel
theorem dL_law_361 : decode cL_law 361 = .ok (.iadd, 1) := by decide +kernel
theorem dL_law_362 : decode cL_law 362 = .ok (.iaload, 1) := by decide +kernel
theorem dL_law_363 : decode cL_law 363 = .ok (.invokevirtual 44, 3) := by decide +kernel
theorem dL_law_366 : decode cL_law 366 = .ok (.aload_n 2, 1) := by decide +kernel
theorem dL_law_367 : decode cL_law 367 = .ok (.aload_n 0, 1) := by decide +kernel
theorem dL_law_368 : decode cL_law 368 = .ok (.iload_n 3, 1) := by decide +kernel
theorem dL_law_369 : decode cL_law 369 = .ok (.iconst 1, 1) := by decide +kernel
theorem dL_law_370 : decode cL_law 370 = .ok (.iadd, 1) := by decide +kernel
theorem dL_law_371 : decode cL_law 371 = .ok (.iaload, 1) := by decide +kernel
theorem dL_law_372 : decode cL_law 372 = .ok (.invokevirtual 47, 3) := by decide +kernel
theorem dL_law_375 : decode cL_law 375 = .ok (.if_icmp .eq 904, 3) := by decide +kernel
theorem dL_law_378 : decode cL_law 378 = .ok (.iconst 0, 1) := by decide +kernel
theorem dL_law_379 : decode cL_law 379 = .ok (.ireturn, 1) := by decide +kernel
theorem dL_law_380 : decode cL_law 380 = .ok (.aload_n 1, 1) := by decide +kernel
theorem dL_law_381 : decode cL_law 381 = .ok (.aload_n 0, 1) := by decide +kernel
theorem dL_law_382 : decode cL_law 382 = .ok (.iload_n 3, 1) := by decide +kernel
theorem dL_law_383 : decode cL_law 383 = .ok (.iconst 1, 1) := by decide +kernel
theorem dL_law_384 : decode cL_law 384 = .ok (.iadd, 1) := by decide +kernel
theorem dL_law_385 : decode cL_law 385 = .ok (.iaload, 1) := by decide +kernel
theorem dL_law_386 : decode cL_law 386 = .ok (.aload_n 0, 1) := by decide +kernel
theorem dL_law_387 : decode cL_law 387 = .ok (.iload_n 3, 1) := by decide +kernel
theorem dL_law_388 : decode cL_law 388 = .ok (.iconst 2, 1) := by decide +kernel
theorem dL_law_389 : decode cL_law 389 = .ok (.iadd, 1) := by decide +kernel
theorem dL_law_390 : decode cL_law 390 = .ok (.iaload, 1) := by decide +kernel
theorem dL_law_391 : decode cL_law 391 = .ok (.invokevirtual 48, 3) := by decide +kernel
theorem dL_law_394 : decode cL_law 394 = .ok (.aload_n 2, 1) := by decide +kernel
theorem dL_law_395 : decode cL_law 395 = .ok (.aload_n 0, 1) := by decide +kernel
theorem dL_law_396 : decode cL_law 396 = .ok (.iload_n 3, 1) := by decide +kernel
theorem dL_law_397 : decode cL_law 397 = .ok (.iconst 1, 1) := by decide +kernel
theorem dL_law_398 : decode cL_law 398 = .ok (.iadd, 1) := by decide +kernel
theorem dL_law_399 : decode cL_law 399 = .ok (.iaload, 1) := by decide +kernel
theorem dL_law_400 : decode cL_law 400 = .ok (.aload_n 0, 1) := by decide +kernel
theorem dL_law_401 : decode cL_law 401 = .ok (.iload_n 3, 1) := by decide +kernel
theorem dL_law_402 : decode cL_law 402 = .ok (.iconst 2, 1) := by decide +kernel
theorem dL_law_403 : decode cL_law 403 = .ok (.iadd, 1) := by decide +kernel
theorem dL_law_404 : decode cL_law 404 = .ok (.iaload, 1) := by decide +kernel
theorem dL_law_405 : decode cL_law 405 = .ok (.invokevirtual 51, 3) := by decide +kernel
theorem dL_law_408 : decode cL_law 408 = .ok (.if_icmp .eq 871, 3) := by decide +kernel
theorem dL_law_411 : decode cL_law 411 = .ok (.iconst 0, 1) := by decide +kernel
theorem dL_law_412 : decode cL_law 412 = .ok (.ireturn, 1) := by decide +kernel
theorem dL_law_413 : decode cL_law 413 = .ok (.aload_n 1, 1) := by decide +kernel
theorem dL_law_414 : decode cL_law 414 = .ok (.aload_n 0, 1) := by decide +kernel
theorem dL_law_415 : decode cL_law 415 = .ok (.iload_n 3, 1) := by decide +kernel
theorem dL_law_416 : decode cL_law 416 = .ok (.iconst 1, 1) := by decide +kernel
theorem dL_law_417 : decode cL_law 417 = .ok (.iadd, 1) := by decide +kernel
theorem dL_law_418 : decode cL_law 418 = .ok (.iaload, 1) := by decide +kernel
theorem dL_law_419 : decode cL_law 419 = .ok (.aload_n 0, 1) := by decide +kernel
theorem dL_law_420 : decode cL_law 420 = .ok (.iload_n 3, 1) := by decide +kernel
theorem dL_law_421 : decode cL_law 421 = .ok (.iconst 2, 1) := by decide +kernel
theorem dL_law_422 : decode cL_law 422 = .ok (.iadd, 1) := by decide +kernel
theorem dL_law_423 : decode cL_law 423 = .ok (.iaload, 1) := by decide +kernel
theorem dL_law_424 : decode cL_law 424 = .ok (.invokevirtual 52, 3) := by decide +kernel
theorem dL_law_427 : decode cL_law 427 = .ok (.aload_n 2, 1) := by decide +kernel
theorem dL_law_428 : decode cL_law 428 = .ok (.aload_n 0, 1) := by decide +kernel
theorem dL_law_429 : decode cL_law 429 = .ok (.iload_n 3, 1) := by decide +kernel
theorem dL_law_430 : decode cL_law 430 = .ok (.iconst 1, 1) := by decide +kernel
theorem dL_law_431 : decode cL_law 431 = .ok (.iadd, 1) := by decide +kernel
theorem dL_law_432 : decode cL_law 432 = .ok (.iaload, 1) := by decide +kernel
theorem dL_law_433 : decode cL_law 433 = .ok (.aload_n 0, 1) := by decide +kernel
theorem dL_law_434 : decode cL_law 434 = .ok (.iload_n 3, 1) := by decide +kernel
theorem dL_law_435 : decode cL_law 435 = .ok (.iconst 2, 1) := by decide +kernel
theorem dL_law_436 : decode cL_law 436 = .ok (.iadd, 1) := by decide +kernel
theorem dL_law_437 : decode cL_law 437 = .ok (.iaload, 1) := by decide +kernel
theorem dL_law_438 : decode cL_law 438 = .ok (.invokevirtual 55, 3) := by decide +kernel
theorem dL_law_441 : decode cL_law 441 = .ok (.if_icmp .eq 838, 3) := by decide +kernel
theorem dL_law_444 : decode cL_law 444 = .ok (.iconst 0, 1) := by decide +kernel
theorem dL_law_445 : decode cL_law 445 = .ok (.ireturn, 1) := by decide +kernel
theorem dL_law_446 : decode cL_law 446 = .ok (.aload_n 1, 1) := by decide +kernel
theorem dL_law_447 : decode cL_law 447 = .ok (.invokevirtual 56, 3) := by decide +kernel
theorem dL_law_450 : decode cL_law 450 = .ok (.aload_n 2, 1) := by decide +kernel
theorem dL_law_451 : decode cL_law 451 = .ok (.invokevirtual 59, 3) := by decide +kernel
theorem dL_law_454 : decode cL_law 454 = .ok (.if_icmp .eq 825, 3) := by decide +kernel
theorem dL_law_457 : decode cL_law 457 = .ok (.iconst 0, 1) := by decide +kernel
theorem dL_law_458 : decode cL_law 458 = .ok (.ireturn, 1) := by decide +kernel
theorem dL_law_459 : decode cL_law 459 = .ok (.aload_n 1, 1) := by decide +kernel
theorem dL_law_460 : decode cL_law 460 = .ok (.aload_n 0, 1) := by decide +kernel
theorem dL_law_461 : decode cL_law 461 = .ok (.iload_n 3, 1) := by decide +kernel
theorem dL_law_462 : decode cL_law 462 = .ok (.iconst 1, 1) := by decide +kernel
theorem dL_law_463 : decode cL_law 463 = .ok (.iadd, 1) := by decide +kernel
theorem dL_law_464 : decode cL_law 464 = .ok (.iaload, 1) := by decide +kernel
theorem dL_law_465 : decode cL_law 465 = .ok (.aload_n 0, 1) := by decide +kernel
theorem dL_law_466 : decode cL_law 466 = .ok (.iload_n 3, 1) := by decide +kernel
theorem dL_law_467 : decode cL_law 467 = .ok (.iconst 2, 1) := by decide +kernel
theorem dL_law_468 : decode cL_law 468 = .ok (.iadd, 1) := by decide +kernel
theorem dL_law_469 : decode cL_law 469 = .ok (.iaload, 1) := by decide +kernel
theorem dL_law_470 : decode cL_law 470 = .ok (.invokevirtual 60, 3) := by decide +kernel
theorem dL_law_473 : decode cL_law 473 = .ok (.aload_n 2, 1) := by decide +kernel
theorem dL_law_474 : decode cL_law 474 = .ok (.aload_n 0, 1) := by decide +kernel
theorem dL_law_475 : decode cL_law 475 = .ok (.iload_n 3, 1) := by decide +kernel
theorem dL_law_476 : decode cL_law 476 = .ok (.iconst 1, 1) := by decide +kernel
theorem dL_law_477 : decode cL_law 477 = .ok (.iadd, 1) := by decide +kernel
theorem dL_law_478 : decode cL_law 478 = .ok (.iaload, 1) := by decide +kernel
theorem dL_law_479 : decode cL_law 479 = .ok (.aload_n 0, 1) := by decide +kernel
theorem dL_law_480 : decode cL_law 480 = .ok (.iload_n 3, 1) := by decide +kernel
theorem dL_law_481 : decode cL_law 481 = .ok (.iconst 2, 1) := by decide +kernel
theorem dL_law_482 : decode cL_law 482 = .ok (.iadd, 1) := by decide +kernel
theorem dL_law_483 : decode cL_law 483 = .ok (.iaload, 1) := by decide +kernel
theorem dL_law_484 : decode cL_law 484 = .ok (.invokevirtual 63, 3) := by decide +kernel
theorem dL_law_487 : decode cL_law 487 = .ok (.if_icmp .eq 792, 3) := by decide +kernel
theorem dL_law_490 : decode cL_law 490 = .ok (.iconst 0, 1) := by decide +kernel
theorem dL_law_491 : decode cL_law 491 = .ok (.ireturn, 1) := by decide +kernel
theorem dL_law_492 : decode cL_law 492 = .ok (.aload_n 1, 1) := by decide +kernel
theorem dL_law_493 : decode cL_law 493 = .ok (.aload_n 0, 1) := by decide +kernel
theorem dL_law_494 : decode cL_law 494 = .ok (.iload_n 3, 1) := by decide +kernel
theorem dL_law_495 : decode cL_law 495 = .ok (.iconst 1, 1) := by decide +kernel
theorem dL_law_496 : decode cL_law 496 = .ok (.iadd, 1) := by decide +kernel
theorem dL_law_497 : decode cL_law 497 = .ok (.iaload, 1) := by decide +kernel
theorem dL_law_498 : decode cL_law 498 = .ok (.aload_n 0, 1) := by decide +kernel
theorem dL_law_499 : decode cL_law 499 = .ok (.iload_n 3, 1) := by decide +kernel
theorem dL_law_500 : decode cL_law 500 = .ok (.iconst 2, 1) := by decide +kernel
theorem dL_law_501 : decode cL_law 501 = .ok (.iadd, 1) := by decide +kernel
theorem dL_law_502 : decode cL_law 502 = .ok (.iaload, 1) := by decide +kernel
theorem dL_law_503 : decode cL_law 503 = .ok (.invokevirtual 64, 3) := by decide +kernel
theorem dL_law_506 : decode cL_law 506 = .ok (.aload_n 2, 1) := by decide +kernel
theorem dL_law_507 : decode cL_law 507 = .ok (.aload_n 0, 1) := by decide +kernel
theorem dL_law_508 : decode cL_law 508 = .ok (.iload_n 3, 1) := by decide +kernel
theorem dL_law_509 : decode cL_law 509 = .ok (.iconst 1, 1) := by decide +kernel
theorem dL_law_510 : decode cL_law 510 = .ok (.iadd, 1) := by decide +kernel
theorem dL_law_511 : decode cL_law 511 = .ok (.iaload, 1) := by decide +kernel
theorem dL_law_512 : decode cL_law 512 = .ok (.aload_n 0, 1) := by decide +kernel
theorem dL_law_513 : decode cL_law 513 = .ok (.iload_n 3, 1) := by decide +kernel
theorem dL_law_514 : decode cL_law 514 = .ok (.iconst 2, 1) := by decide +kernel
theorem dL_law_515 : decode cL_law 515 = .ok (.iadd, 1) := by decide +kernel
theorem dL_law_516 : decode cL_law 516 = .ok (.iaload, 1) := by decide +kernel
theorem dL_law_517 : decode cL_law 517 = .ok (.invokevirtual 67, 3) := by decide +kernel
theorem dL_law_520 : decode cL_law 520 = .ok (.if_icmp .eq 759, 3) := by decide +kernel
theorem dL_law_523 : decode cL_law 523 = .ok (.iconst 0, 1) := by decide +kernel
theorem dL_law_524 : decode cL_law 524 = .ok (.ireturn, 1) := by decide +kernel
theorem dL_law_525 : decode cL_law 525 = .ok (.aload_n 1, 1) := by decide +kernel
theorem dL_law_526 : decode cL_law 526 = .ok (.aload_n 0, 1) := by decide +kernel
theorem dL_law_527 : decode cL_law 527 = .ok (.iload_n 3, 1) := by decide +kernel
theorem dL_law_528 : decode cL_law 528 = .ok (.iconst 1, 1) := by decide +kernel
theorem dL_law_529 : decode cL_law 529 = .ok (.iadd, 1) := by decide +kernel
theorem dL_law_530 : decode cL_law 530 = .ok (.iaload, 1) := by decide +kernel
theorem dL_law_531 : decode cL_law 531 = .ok (.aload_n 0, 1) := by decide +kernel
theorem dL_law_532 : decode cL_law 532 = .ok (.iload_n 3, 1) := by decide +kernel
theorem dL_law_533 : decode cL_law 533 = .ok (.iconst 2, 1) := by decide +kernel
theorem dL_law_534 : decode cL_law 534 = .ok (.iadd, 1) := by decide +kernel
theorem dL_law_535 : decode cL_law 535 = .ok (.iaload, 1) := by decide +kernel
theorem dL_law_536 : decode cL_law 536 = .ok (.aload_n 0, 1) := by decide +kernel
theorem dL_law_537 : decode cL_law 537 = .ok (.iload_n 3, 1) := by decide +kernel
theorem dL_law_538 : decode cL_law 538 = .ok (.iconst 3, 1) := by decide +kernel
theorem dL_law_539 : decode cL_law 539 = .ok (.iadd, 1) := by decide +kernel
theorem dL_law_540 : decode cL_law 540 = .ok (.iaload, 1) := by decide +kernel
theorem dL_law_541 : decode cL_law 541 = .ok (.invokevirtual 68, 3) := by decide +kernel
theorem dL_law_544 : decode cL_law 544 = .ok (.aload_n 2, 1) := by decide +kernel
theorem dL_law_545 : decode cL_law 545 = .ok (.aload_n 0, 1) := by decide +kernel
theorem dL_law_546 : decode cL_law 546 = .ok (.iload_n 3, 1) := by decide +kernel
theorem dL_law_547 : decode cL_law 547 = .ok (.iconst 1, 1) := by decide +kernel
theorem dL_law_548 : decode cL_law 548 = .ok (.iadd, 1) := by decide +kernel
theorem dL_law_549 : decode cL_law 549 = .ok (.iaload, 1) := by decide +kernel
theorem dL_law_550 : decode cL_law 550 = .ok (.aload_n 0, 1) := by decide +kernel
theorem dL_law_551 : decode cL_law 551 = .ok (.iload_n 3, 1) := by decide +kernel
theorem dL_law_552 : decode cL_law 552 = .ok (.iconst 2, 1) := by decide +kernel
theorem dL_law_553 : decode cL_law 553 = .ok (.iadd, 1) := by decide +kernel
theorem dL_law_554 : decode cL_law 554 = .ok (.iaload, 1) := by decide +kernel
theorem dL_law_555 : decode cL_law 555 = .ok (.aload_n 0, 1) := by decide +kernel
theorem dL_law_556 : decode cL_law 556 = .ok (.iload_n 3, 1) := by decide +kernel
theorem dL_law_557 : decode cL_law 557 = .ok (.iconst 3, 1) := by decide +kernel
theorem dL_law_558 : decode cL_law 558 = .ok (.iadd, 1) := by decide +kernel
theorem dL_law_559 : decode cL_law 559 = .ok (.iaload, 1) := by decide +kernel
theorem dL_law_560 : decode cL_law 560 = .ok (.invokevirtual 72, 3) := by decide +kernel
theorem dL_law_563 : decode cL_law 563 = .ok (.if_icmp .eq 716, 3) := by decide +kernel
theorem dL_law_566 : decode cL_law 566 = .ok (.iconst 0, 1) := by decide +kernel
theorem dL_law_567 : decode cL_law 567 = .ok (.ireturn, 1) := by decide +kernel
theorem dL_law_568 : decode cL_law 568 = .ok (.aload_n 1, 1) := by decide +kernel
theorem dL_law_569 : decode cL_law 569 = .ok (.aload_n 0, 1) := by decide +kernel
theorem dL_law_570 : decode cL_law 570 = .ok (.iload_n 3, 1) := by decide +kernel
theorem dL_law_571 : decode cL_law 571 = .ok (.iconst 1, 1) := by decide +kernel
theorem dL_law_572 : decode cL_law 572 = .ok (.iadd, 1) := by decide +kernel
theorem dL_law_573 : decode cL_law 573 = .ok (.iaload, 1) := by decide +kernel
theorem dL_law_574 : decode cL_law 574 = .ok (.invokevirtual 73, 3) := by decide +kernel
theorem dL_law_577 : decode cL_law 577 = .ok (.aload_n 2, 1) := by decide +kernel
theorem dL_law_578 : decode cL_law 578 = .ok (.aload_n 0, 1) := by decide +kernel
theorem dL_law_579 : decode cL_law 579 = .ok (.iload_n 3, 1) := by decide +kernel
theorem dL_law_580 : decode cL_law 580 = .ok (.iconst 1, 1) := by decide +kernel
theorem dL_law_581 : decode cL_law 581 = .ok (.iadd, 1) := by decide +kernel
theorem dL_law_582 : decode cL_law 582 = .ok (.iaload, 1) := by decide +kernel
theorem dL_law_583 : decode cL_law 583 = .ok (.invokevirtual 76, 3) := by decide +kernel
theorem dL_law_586 : decode cL_law 586 = .ok (.if_icmp .eq 693, 3) := by decide +kernel
theorem dL_law_589 : decode cL_law 589 = .ok (.iconst 0, 1) := by decide +kernel
theorem dL_law_590 : decode cL_law 590 = .ok (.ireturn, 1) := by decide +kernel
theorem dL_law_591 : decode cL_law 591 = .ok (.aload_n 1, 1) := by decide +kernel
theorem dL_law_592 : decode cL_law 592 = .ok (.aload_n 0, 1) := by decide +kernel
theorem dL_law_593 : decode cL_law 593 = .ok (.iload_n 3, 1) := by decide +kernel
theorem dL_law_594 : decode cL_law 594 = .ok (.iconst 1, 1) := by decide +kernel
theorem dL_law_595 : decode cL_law 595 = .ok (.iadd, 1) := by decide +kernel
theorem dL_law_596 : decode cL_law 596 = .ok (.iaload, 1) := by decide +kernel
theorem dL_law_597 : decode cL_law 597 = .ok (.invokevirtual 77, 3) := by decide +kernel
theorem dL_law_600 : decode cL_law 600 = .ok (.aload_n 2, 1) := by decide +kernel
theorem dL_law_601 : decode cL_law 601 = .ok (.aload_n 0, 1) := by decide +kernel
theorem dL_law_602 : decode cL_law 602 = .ok (.iload_n 3, 1) := by decide +kernel
theorem dL_law_603 : decode cL_law 603 = .ok (.iconst 1, 1) := by decide +kernel
theorem dL_law_604 : decode cL_law 604 = .ok (.iadd, 1) := by decide +kernel
theorem dL_law_605 : decode cL_law 605 = .ok (.iaload, 1) := by decide +kernel
theorem dL_law_606 : decode cL_law 606 = .ok (.invokevirtual 80, 3) := by decide +kernel
theorem dL_law_609 : decode cL_law 609 = .ok (.if_icmp .eq 670, 3) := by decide +kernel
theorem dL_law_612 : decode cL_law 612 = .ok (.iconst 0, 1) := by decide +kernel
theorem dL_law_613 : decode cL_law 613 = .ok (.ireturn, 1) := by decide +kernel
theorem dL_law_614 : decode cL_law 614 = .ok (.aload_n 1, 1) := by decide +kernel
theorem dL_law_615 : decode cL_law 615 = .ok (.aload_n 0, 1) := by decide +kernel
theorem dL_law_616 : decode cL_law 616 = .ok (.iload_n 3, 1) := by decide +kernel
theorem dL_law_617 : decode cL_law 617 = .ok (.iconst 1, 1) := by decide +kernel
theorem dL_law_618 : decode cL_law 618 = .ok (.iadd, 1) := by decide +kernel
theorem dL_law_619 : decode cL_law 619 = .ok (.iaload, 1) := by decide +kernel
theorem dL_law_620 : decode cL_law 620 = .ok (.aload_n 0, 1) := by decide +kernel
theorem dL_law_621 : decode cL_law 621 = .ok (.iload_n 3, 1) := by decide +kernel
theorem dL_law_622 : decode cL_law 622 = .ok (.iconst 2, 1) := by decide +kernel
theorem dL_law_623 : decode cL_law 623 = .ok (.iadd, 1) := by decide +kernel
theorem dL_law_624 : decode cL_law 624 = .ok (.iaload, 1) := by decide +kernel
theorem dL_law_625 : decode cL_law 625 = .ok (.invokevirtual 81, 3) := by decide +kernel
theorem dL_law_628 : decode cL_law 628 = .ok (.aload_n 2, 1) := by decide +kernel
theorem dL_law_629 : decode cL_law 629 = .ok (.aload_n 0, 1) := by decide +kernel
theorem dL_law_630 : decode cL_law 630 = .ok (.iload_n 3, 1) := by decide +kernel
theorem dL_law_631 : decode cL_law 631 = .ok (.iconst 1, 1) := by decide +kernel
theorem dL_law_632 : decode cL_law 632 = .ok (.iadd, 1) := by decide +kernel
theorem dL_law_633 : decode cL_law 633 = .ok (.iaload, 1) := by decide +kernel
theorem dL_law_634 : decode cL_law 634 = .ok (.aload_n 0, 1) := by decide +kernel
theorem dL_law_635 : decode cL_law 635 = .ok (.iload_n 3, 1) := by decide +kernel
theorem dL_law_636 : decode cL_law 636 = .ok (.iconst 2, 1) := by decide +kernel
theorem dL_law_637 : decode cL_law 637 = .ok (.iadd, 1) := by decide +kernel
theorem dL_law_638 : decode cL_law 638 = .ok (.iaload, 1) := by decide +kernel
theorem dL_law_639 : decode cL_law 639 = .ok (.invokevirtual 84, 3) := by decide +kernel
theorem dL_law_642 : decode cL_law 642 = .ok (.if_icmp .eq 637, 3) := by decide +kernel
theorem dL_law_645 : decode cL_law 645 = .ok (.iconst 0, 1) := by decide +kernel
theorem dL_law_646 : decode cL_law 646 = .ok (.ireturn, 1) := by decide +kernel
theorem dL_law_647 : decode cL_law 647 = .ok (.aload_n 1, 1) := by decide +kernel
theorem dL_law_648 : decode cL_law 648 = .ok (.aload_n 0, 1) := by decide +kernel
theorem dL_law_649 : decode cL_law 649 = .ok (.iload_n 3, 1) := by decide +kernel
theorem dL_law_650 : decode cL_law 650 = .ok (.iconst 1, 1) := by decide +kernel
theorem dL_law_651 : decode cL_law 651 = .ok (.iadd, 1) := by decide +kernel
theorem dL_law_652 : decode cL_law 652 = .ok (.iaload, 1) := by decide +kernel
theorem dL_law_653 : decode cL_law 653 = .ok (.aload_n 0, 1) := by decide +kernel
theorem dL_law_654 : decode cL_law 654 = .ok (.iload_n 3, 1) := by decide +kernel
theorem dL_law_655 : decode cL_law 655 = .ok (.iconst 2, 1) := by decide +kernel
theorem dL_law_656 : decode cL_law 656 = .ok (.iadd, 1) := by decide +kernel
theorem dL_law_657 : decode cL_law 657 = .ok (.iaload, 1) := by decide +kernel
theorem dL_law_658 : decode cL_law 658 = .ok (.invokevirtual 85, 3) := by decide +kernel
theorem dL_law_661 : decode cL_law 661 = .ok (.aload_n 2, 1) := by decide +kernel
theorem dL_law_662 : decode cL_law 662 = .ok (.aload_n 0, 1) := by decide +kernel
theorem dL_law_663 : decode cL_law 663 = .ok (.iload_n 3, 1) := by decide +kernel
theorem dL_law_664 : decode cL_law 664 = .ok (.iconst 1, 1) := by decide +kernel
theorem dL_law_665 : decode cL_law 665 = .ok (.iadd, 1) := by decide +kernel
theorem dL_law_666 : decode cL_law 666 = .ok (.iaload, 1) := by decide +kernel
theorem dL_law_667 : decode cL_law 667 = .ok (.aload_n 0, 1) := by decide +kernel
theorem dL_law_668 : decode cL_law 668 = .ok (.iload_n 3, 1) := by decide +kernel
theorem dL_law_669 : decode cL_law 669 = .ok (.iconst 2, 1) := by decide +kernel
theorem dL_law_670 : decode cL_law 670 = .ok (.iadd, 1) := by decide +kernel
theorem dL_law_671 : decode cL_law 671 = .ok (.iaload, 1) := by decide +kernel
theorem dL_law_672 : decode cL_law 672 = .ok (.invokevirtual 88, 3) := by decide +kernel
theorem dL_law_675 : decode cL_law 675 = .ok (.if_icmp .eq 604, 3) := by decide +kernel
theorem dL_law_678 : decode cL_law 678 = .ok (.iconst 0, 1) := by decide +kernel
theorem dL_law_679 : decode cL_law 679 = .ok (.ireturn, 1) := by decide +kernel
theorem dL_law_680 : decode cL_law 680 = .ok (.aload_n 1, 1) := by decide +kernel
theorem dL_law_681 : decode cL_law 681 = .ok (.aload_n 0, 1) := by decide +kernel
theorem dL_law_682 : decode cL_law 682 = .ok (.iload_n 3, 1) := by decide +kernel
theorem dL_law_683 : decode cL_law 683 = .ok (.iconst 1, 1) := by decide +kernel
theorem dL_law_684 : decode cL_law 684 = .ok (.iadd, 1) := by decide +kernel
theorem dL_law_685 : decode cL_law 685 = .ok (.iaload, 1) := by decide +kernel
theorem dL_law_686 : decode cL_law 686 = .ok (.aload_n 0, 1) := by decide +kernel
theorem dL_law_687 : decode cL_law 687 = .ok (.iload_n 3, 1) := by decide +kernel
theorem dL_law_688 : decode cL_law 688 = .ok (.iconst 2, 1) := by decide +kernel
theorem dL_law_689 : decode cL_law 689 = .ok (.iadd, 1) := by decide +kernel
theorem dL_law_690 : decode cL_law 690 = .ok (.iaload, 1) := by decide +kernel
theorem dL_law_691 : decode cL_law 691 = .ok (.aload_n 0, 1) := by decide +kernel
theorem dL_law_692 : decode cL_law 692 = .ok (.iload_n 3, 1) := by decide +kernel
theorem dL_law_693 : decode cL_law 693 = .ok (.iconst 3, 1) := by decide +kernel
theorem dL_law_694 : decode cL_law 694 = .ok (.iadd, 1) := by decide +kernel
theorem dL_law_695 : decode cL_law 695 = .ok (.iaload, 1) := by decide +kernel
theorem dL_law_696 : decode cL_law 696 = .ok (.invokevirtual 89, 3) := by decide +kernel
theorem dL_law_699 : decode cL_law 699 = .ok (.aload_n 2, 1) := by decide +kernel
theorem dL_law_700 : decode cL_law 700 = .ok (.aload_n 0, 1) := by decide +kernel
theorem dL_law_701 : decode cL_law 701 = .ok (.iload_n 3, 1) := by decide +kernel
theorem dL_law_702 : decode cL_law 702 = .ok (.iconst 1, 1) := by decide +kernel
theorem dL_law_703 : decode cL_law 703 = .ok (.iadd, 1) := by decide +kernel
theorem dL_law_704 : decode cL_law 704 = .ok (.iaload, 1) := by decide +kernel
theorem dL_law_705 : decode cL_law 705 = .ok (.aload_n 0, 1) := by decide +kernel
theorem dL_law_706 : decode cL_law 706 = .ok (.iload_n 3, 1) := by decide +kernel
theorem dL_law_707 : decode cL_law 707 = .ok (.iconst 2, 1) := by decide +kernel
theorem dL_law_708 : decode cL_law 708 = .ok (.iadd, 1) := by decide +kernel
theorem dL_law_709 : decode cL_law 709 = .ok (.iaload, 1) := by decide +kernel
theorem dL_law_710 : decode cL_law 710 = .ok (.aload_n 0, 1) := by decide +kernel
theorem dL_law_711 : decode cL_law 711 = .ok (.iload_n 3, 1) := by decide +kernel
theorem dL_law_712 : decode cL_law 712 = .ok (.iconst 3, 1) := by decide +kernel
theorem dL_law_713 : decode cL_law 713 = .ok (.iadd, 1) := by decide +kernel
theorem dL_law_714 : decode cL_law 714 = .ok (.iaload, 1) := by decide +kernel
theorem dL_law_715 : decode cL_law 715 = .ok (.invokevirtual 92, 3) := by decide +kernel
theorem dL_law_718 : decode cL_law 718 = .ok (.if_icmp .eq 561, 3) := by decide +kernel
theorem dL_law_721 : decode cL_law 721 = .ok (.iconst 0, 1) := by decide +kernel
theorem dL_law_722 : decode cL_law 722 = .ok (.ireturn, 1) := by decide +kernel
theorem dL_law_723 : decode cL_law 723 = .ok (.aload_n 1, 1) := by decide +kernel
theorem dL_law_724 : decode cL_law 724 = .ok (.aload_n 0, 1) := by decide +kernel
theorem dL_law_725 : decode cL_law 725 = .ok (.iload_n 3, 1) := by decide +kernel
theorem dL_law_726 : decode cL_law 726 = .ok (.iconst 1, 1) := by decide +kernel
theorem dL_law_727 : decode cL_law 727 = .ok (.iadd, 1) := by decide +kernel
theorem dL_law_728 : decode cL_law 728 = .ok (.iaload, 1) := by decide +kernel
theorem dL_law_729 : decode cL_law 729 = .ok (.aload_n 0, 1) := by decide +kernel
theorem dL_law_730 : decode cL_law 730 = .ok (.iload_n 3, 1) := by decide +kernel
theorem dL_law_731 : decode cL_law 731 = .ok (.iconst 2, 1) := by decide +kernel
theorem dL_law_732 : decode cL_law 732 = .ok (.iadd, 1) := by decide +kernel
theorem dL_law_733 : decode cL_law 733 = .ok (.iaload, 1) := by decide +kernel
theorem dL_law_734 : decode cL_law 734 = .ok (.aload_n 0, 1) := by decide +kernel
theorem dL_law_735 : decode cL_law 735 = .ok (.iload_n 3, 1) := by decide +kernel
theorem dL_law_736 : decode cL_law 736 = .ok (.iconst 3, 1) := by decide +kernel
theorem dL_law_737 : decode cL_law 737 = .ok (.iadd, 1) := by decide +kernel
theorem dL_law_738 : decode cL_law 738 = .ok (.iaload, 1) := by decide +kernel
theorem dL_law_739 : decode cL_law 739 = .ok (.invokevirtual 93, 3) := by decide +kernel
theorem dL_law_742 : decode cL_law 742 = .ok (.aload_n 2, 1) := by decide +kernel
theorem dL_law_743 : decode cL_law 743 = .ok (.aload_n 0, 1) := by decide +kernel
theorem dL_law_744 : decode cL_law 744 = .ok (.iload_n 3, 1) := by decide +kernel
theorem dL_law_745 : decode cL_law 745 = .ok (.iconst 1, 1) := by decide +kernel
theorem dL_law_746 : decode cL_law 746 = .ok (.iadd, 1) := by decide +kernel
theorem dL_law_747 : decode cL_law 747 = .ok (.iaload, 1) := by decide +kernel
theorem dL_law_748 : decode cL_law 748 = .ok (.aload_n 0, 1) := by decide +kernel
theorem dL_law_749 : decode cL_law 749 = .ok (.iload_n 3, 1) := by decide +kernel
theorem dL_law_750 : decode cL_law 750 = .ok (.iconst 2, 1) := by decide +kernel
theorem dL_law_751 : decode cL_law 751 = .ok (.iadd, 1) := by decide +kernel
theorem dL_law_752 : decode cL_law 752 = .ok (.iaload, 1) := by decide +kernel
theorem dL_law_753 : decode cL_law 753 = .ok (.aload_n 0, 1) := by decide +kernel
theorem dL_law_754 : decode cL_law 754 = .ok (.iload_n 3, 1) := by decide +kernel
theorem dL_law_755 : decode cL_law 755 = .ok (.iconst 3, 1) := by decide +kernel
theorem dL_law_756 : decode cL_law 756 = .ok (.iadd, 1) := by decide +kernel
theorem dL_law_757 : decode cL_law 757 = .ok (.iaload, 1) := by decide +kernel
theorem dL_law_758 : decode cL_law 758 = .ok (.invokevirtual 96, 3) := by decide +kernel
theorem dL_law_761 : decode cL_law 761 = .ok (.if_icmp .eq 518, 3) := by decide +kernel
theorem dL_law_764 : decode cL_law 764 = .ok (.iconst 0, 1) := by decide +kernel
theorem dL_law_765 : decode cL_law 765 = .ok (.ireturn, 1) := by decide +kernel
theorem dL_law_766 : decode cL_law 766 = .ok (.aload_n 1, 1) := by decide +kernel
theorem dL_law_767 : decode cL_law 767 = .ok (.aload_n 0, 1) := by decide +kernel
theorem dL_law_768 : decode cL_law 768 = .ok (.iload_n 3, 1) := by decide +kernel
theorem dL_law_769 : decode cL_law 769 = .ok (.iconst 1, 1) := by decide +kernel
theorem dL_law_770 : decode cL_law 770 = .ok (.iadd, 1) := by decide +kernel
theorem dL_law_771 : decode cL_law 771 = .ok (.iaload, 1) := by decide +kernel
theorem dL_law_772 : decode cL_law 772 = .ok (.aload_n 0, 1) := by decide +kernel
theorem dL_law_773 : decode cL_law 773 = .ok (.iload_n 3, 1) := by decide +kernel
theorem dL_law_774 : decode cL_law 774 = .ok (.iconst 2, 1) := by decide +kernel
theorem dL_law_775 : decode cL_law 775 = .ok (.iadd, 1) := by decide +kernel
theorem dL_law_776 : decode cL_law 776 = .ok (.iaload, 1) := by decide +kernel
theorem dL_law_777 : decode cL_law 777 = .ok (.invokevirtual 97, 3) := by decide +kernel
theorem dL_law_780 : decode cL_law 780 = .ok (.aload_n 2, 1) := by decide +kernel
theorem dL_law_781 : decode cL_law 781 = .ok (.aload_n 0, 1) := by decide +kernel
theorem dL_law_782 : decode cL_law 782 = .ok (.iload_n 3, 1) := by decide +kernel
theorem dL_law_783 : decode cL_law 783 = .ok (.iconst 1, 1) := by decide +kernel
theorem dL_law_784 : decode cL_law 784 = .ok (.iadd, 1) := by decide +kernel
theorem dL_law_785 : decode cL_law 785 = .ok (.iaload, 1) := by decide +kernel
theorem dL_law_786 : decode cL_law 786 = .ok (.aload_n 0, 1) := by decide +kernel
theorem dL_law_787 : decode cL_law 787 = .ok (.iload_n 3, 1) := by decide +kernel
theorem dL_law_788 : decode cL_law 788 = .ok (.iconst 2, 1) := by decide +kernel
theorem dL_law_789 : decode cL_law 789 = .ok (.iadd, 1) := by decide +kernel
theorem dL_law_790 : decode cL_law 790 = .ok (.iaload, 1) := by decide +kernel
theorem dL_law_791 : decode cL_law 791 = .ok (.invokevirtual 100, 3) := by decide +kernel
theorem dL_law_794 : decode cL_law 794 = .ok (.if_icmp .eq 485, 3) := by decide +kernel
theorem dL_law_797 : decode cL_law 797 = .ok (.iconst 0, 1) := by decide +kernel
theorem dL_law_798 : decode cL_law 798 = .ok (.ireturn, 1) := by decide +kernel
theorem dL_law_799 : decode cL_law 799 = .ok (.aload_n 1, 1) := by decide +kernel
theorem dL_law_800 : decode cL_law 800 = .ok (.aload_n 0, 1) := by decide +kernel
theorem dL_law_801 : decode cL_law 801 = .ok (.iload_n 3, 1) := by decide +kernel
theorem dL_law_802 : decode cL_law 802 = .ok (.iconst 1, 1) := by decide +kernel
theorem dL_law_803 : decode cL_law 803 = .ok (.iadd, 1) := by decide +kernel
theorem dL_law_804 : decode cL_law 804 = .ok (.iaload, 1) := by decide +kernel
theorem dL_law_805 : decode cL_law 805 = .ok (.aload_n 0, 1) := by decide +kernel
theorem dL_law_806 : decode cL_law 806 = .ok (.iload_n 3, 1) := by decide +kernel
theorem dL_law_807 : decode cL_law 807 = .ok (.iconst 2, 1) := by decide +kernel
theorem dL_law_808 : decode cL_law 808 = .ok (.iadd, 1) := by decide +kernel
theorem dL_law_809 : decode cL_law 809 = .ok (.iaload, 1) := by decide +kernel
theorem dL_law_810 : decode cL_law 810 = .ok (.aload_n 0, 1) := by decide +kernel
theorem dL_law_811 : decode cL_law 811 = .ok (.iload_n 3, 1) := by decide +kernel
theorem dL_law_812 : decode cL_law 812 = .ok (.iconst 3, 1) := by decide +kernel
theorem dL_law_813 : decode cL_law 813 = .ok (.iadd, 1) := by decide +kernel
theorem dL_law_814 : decode cL_law 814 = .ok (.iaload, 1) := by decide +kernel
theorem dL_law_815 : decode cL_law 815 = .ok (.aload_n 0, 1) := by decide +kernel
theorem dL_law_816 : decode cL_law 816 = .ok (.iload_n 3, 1) := by decide +kernel
theorem dL_law_817 : decode cL_law 817 = .ok (.iconst 4, 1) := by decide +kernel
theorem dL_law_818 : decode cL_law 818 = .ok (.iadd, 1) := by decide +kernel
theorem dL_law_819 : decode cL_law 819 = .ok (.iaload, 1) := by decide +kernel
theorem dL_law_820 : decode cL_law 820 = .ok (.invokevirtual 101, 3) := by decide +kernel
theorem dL_law_823 : decode cL_law 823 = .ok (.aload_n 2, 1) := by decide +kernel
theorem dL_law_824 : decode cL_law 824 = .ok (.aload_n 0, 1) := by decide +kernel
theorem dL_law_825 : decode cL_law 825 = .ok (.iload_n 3, 1) := by decide +kernel
theorem dL_law_826 : decode cL_law 826 = .ok (.iconst 1, 1) := by decide +kernel
theorem dL_law_827 : decode cL_law 827 = .ok (.iadd, 1) := by decide +kernel
theorem dL_law_828 : decode cL_law 828 = .ok (.iaload, 1) := by decide +kernel
theorem dL_law_829 : decode cL_law 829 = .ok (.aload_n 0, 1) := by decide +kernel
theorem dL_law_830 : decode cL_law 830 = .ok (.iload_n 3, 1) := by decide +kernel
theorem dL_law_831 : decode cL_law 831 = .ok (.iconst 2, 1) := by decide +kernel
theorem dL_law_832 : decode cL_law 832 = .ok (.iadd, 1) := by decide +kernel
theorem dL_law_833 : decode cL_law 833 = .ok (.iaload, 1) := by decide +kernel
theorem dL_law_834 : decode cL_law 834 = .ok (.aload_n 0, 1) := by decide +kernel
theorem dL_law_835 : decode cL_law 835 = .ok (.iload_n 3, 1) := by decide +kernel
theorem dL_law_836 : decode cL_law 836 = .ok (.iconst 3, 1) := by decide +kernel
theorem dL_law_837 : decode cL_law 837 = .ok (.iadd, 1) := by decide +kernel
theorem dL_law_838 : decode cL_law 838 = .ok (.iaload, 1) := by decide +kernel
theorem dL_law_839 : decode cL_law 839 = .ok (.aload_n 0, 1) := by decide +kernel
theorem dL_law_840 : decode cL_law 840 = .ok (.iload_n 3, 1) := by decide +kernel
theorem dL_law_841 : decode cL_law 841 = .ok (.iconst 4, 1) := by decide +kernel
theorem dL_law_842 : decode cL_law 842 = .ok (.iadd, 1) := by decide +kernel
theorem dL_law_843 : decode cL_law 843 = .ok (.iaload, 1) := by decide +kernel
theorem dL_law_844 : decode cL_law 844 = .ok (.invokevirtual 105, 3) := by decide +kernel
theorem dL_law_847 : decode cL_law 847 = .ok (.if_icmp .eq 432, 3) := by decide +kernel
theorem dL_law_850 : decode cL_law 850 = .ok (.iconst 0, 1) := by decide +kernel
theorem dL_law_851 : decode cL_law 851 = .ok (.ireturn, 1) := by decide +kernel
theorem dL_law_852 : decode cL_law 852 = .ok (.aload_n 1, 1) := by decide +kernel
theorem dL_law_853 : decode cL_law 853 = .ok (.aload_n 0, 1) := by decide +kernel
theorem dL_law_854 : decode cL_law 854 = .ok (.iload_n 3, 1) := by decide +kernel
theorem dL_law_855 : decode cL_law 855 = .ok (.iconst 1, 1) := by decide +kernel
theorem dL_law_856 : decode cL_law 856 = .ok (.iadd, 1) := by decide +kernel
theorem dL_law_857 : decode cL_law 857 = .ok (.iaload, 1) := by decide +kernel
theorem dL_law_858 : decode cL_law 858 = .ok (.aload_n 0, 1) := by decide +kernel
theorem dL_law_859 : decode cL_law 859 = .ok (.iload_n 3, 1) := by decide +kernel
theorem dL_law_860 : decode cL_law 860 = .ok (.iconst 2, 1) := by decide +kernel
theorem dL_law_861 : decode cL_law 861 = .ok (.iadd, 1) := by decide +kernel
theorem dL_law_862 : decode cL_law 862 = .ok (.iaload, 1) := by decide +kernel
theorem dL_law_863 : decode cL_law 863 = .ok (.aload_n 0, 1) := by decide +kernel
theorem dL_law_864 : decode cL_law 864 = .ok (.iload_n 3, 1) := by decide +kernel
theorem dL_law_865 : decode cL_law 865 = .ok (.iconst 3, 1) := by decide +kernel
theorem dL_law_866 : decode cL_law 866 = .ok (.iadd, 1) := by decide +kernel
theorem dL_law_867 : decode cL_law 867 = .ok (.iaload, 1) := by decide +kernel
theorem dL_law_868 : decode cL_law 868 = .ok (.aload_n 0, 1) := by decide +kernel
theorem dL_law_869 : decode cL_law 869 = .ok (.iload_n 3, 1) := by decide +kernel
theorem dL_law_870 : decode cL_law 870 = .ok (.iconst 4, 1) := by decide +kernel
theorem dL_law_871 : decode cL_law 871 = .ok (.iadd, 1) := by decide +kernel
theorem dL_law_872 : decode cL_law 872 = .ok (.iaload, 1) := by decide +kernel
theorem dL_law_873 : decode cL_law 873 = .ok (.invokevirtual 106, 3) := by decide +kernel
theorem dL_law_876 : decode cL_law 876 = .ok (.aload_n 2, 1) := by decide +kernel
theorem dL_law_877 : decode cL_law 877 = .ok (.aload_n 0, 1) := by decide +kernel
theorem dL_law_878 : decode cL_law 878 = .ok (.iload_n 3, 1) := by decide +kernel
theorem dL_law_879 : decode cL_law 879 = .ok (.iconst 1, 1) := by decide +kernel
theorem dL_law_880 : decode cL_law 880 = .ok (.iadd, 1) := by decide +kernel
theorem dL_law_881 : decode cL_law 881 = .ok (.iaload, 1) := by decide +kernel
theorem dL_law_882 : decode cL_law 882 = .ok (.aload_n 0, 1) := by decide +kernel
theorem dL_law_883 : decode cL_law 883 = .ok (.iload_n 3, 1) := by decide +kernel
theorem dL_law_884 : decode cL_law 884 = .ok (.iconst 2, 1) := by decide +kernel
theorem dL_law_885 : decode cL_law 885 = .ok (.iadd, 1) := by decide +kernel
theorem dL_law_886 : decode cL_law 886 = .ok (.iaload, 1) := by decide +kernel
theorem dL_law_887 : decode cL_law 887 = .ok (.aload_n 0, 1) := by decide +kernel
theorem dL_law_888 : decode cL_law 888 = .ok (.iload_n 3, 1) := by decide +kernel
theorem dL_law_889 : decode cL_law 889 = .ok (.iconst 3, 1) := by decide +kernel
theorem dL_law_890 : decode cL_law 890 = .ok (.iadd, 1) := by decide +kernel
theorem dL_law_891 : decode cL_law 891 = .ok (.iaload, 1) := by decide +kernel
theorem dL_law_892 : decode cL_law 892 = .ok (.aload_n 0, 1) := by decide +kernel
theorem dL_law_893 : decode cL_law 893 = .ok (.iload_n 3, 1) := by decide +kernel
theorem dL_law_894 : decode cL_law 894 = .ok (.iconst 4, 1) := by decide +kernel
theorem dL_law_895 : decode cL_law 895 = .ok (.iadd, 1) := by decide +kernel
theorem dL_law_896 : decode cL_law 896 = .ok (.iaload, 1) := by decide +kernel
theorem dL_law_897 : decode cL_law 897 = .ok (.invokevirtual 109, 3) := by decide +kernel
theorem dL_law_900 : decode cL_law 900 = .ok (.if_icmp .eq 379, 3) := by decide +kernel
theorem dL_law_903 : decode cL_law 903 = .ok (.iconst 0, 1) := by decide +kernel
theorem dL_law_904 : decode cL_law 904 = .ok (.ireturn, 1) := by decide +kernel
theorem dL_law_905 : decode cL_law 905 = .ok (.aload_n 1, 1) := by decide +kernel
theorem dL_law_906 : decode cL_law 906 = .ok (.aload_n 0, 1) := by decide +kernel
theorem dL_law_907 : decode cL_law 907 = .ok (.iload_n 3, 1) := by decide +kernel
theorem dL_law_908 : decode cL_law 908 = .ok (.iconst 1, 1) := by decide +kernel
theorem dL_law_909 : decode cL_law 909 = .ok (.iadd, 1) := by decide +kernel
theorem dL_law_910 : decode cL_law 910 = .ok (.iaload, 1) := by decide +kernel
theorem dL_law_911 : decode cL_law 911 = .ok (.invokevirtual 110, 3) := by decide +kernel
theorem dL_law_914 : decode cL_law 914 = .ok (.aload_n 2, 1) := by decide +kernel
theorem dL_law_915 : decode cL_law 915 = .ok (.aload_n 0, 1) := by decide +kernel
theorem dL_law_916 : decode cL_law 916 = .ok (.iload_n 3, 1) := by decide +kernel
theorem dL_law_917 : decode cL_law 917 = .ok (.iconst 1, 1) := by decide +kernel
theorem dL_law_918 : decode cL_law 918 = .ok (.iadd, 1) := by decide +kernel
theorem dL_law_919 : decode cL_law 919 = .ok (.iaload, 1) := by decide +kernel
theorem dL_law_920 : decode cL_law 920 = .ok (.invokevirtual 113, 3) := by decide +kernel
theorem dL_law_923 : decode cL_law 923 = .ok (.if_icmp .eq 356, 3) := by decide +kernel
theorem dL_law_926 : decode cL_law 926 = .ok (.iconst 0, 1) := by decide +kernel
theorem dL_law_927 : decode cL_law 927 = .ok (.ireturn, 1) := by decide +kernel
theorem dL_law_928 : decode cL_law 928 = .ok (.aload_n 1, 1) := by decide +kernel
theorem dL_law_929 : decode cL_law 929 = .ok (.aload_n 0, 1) := by decide +kernel
theorem dL_law_930 : decode cL_law 930 = .ok (.iload_n 3, 1) := by decide +kernel
theorem dL_law_931 : decode cL_law 931 = .ok (.iconst 1, 1) := by decide +kernel
theorem dL_law_932 : decode cL_law 932 = .ok (.iadd, 1) := by decide +kernel
theorem dL_law_933 : decode cL_law 933 = .ok (.iaload, 1) := by decide +kernel
theorem dL_law_934 : decode cL_law 934 = .ok (.invokevirtual 114, 3) := by decide +kernel
theorem dL_law_937 : decode cL_law 937 = .ok (.aload_n 2, 1) := by decide +kernel
theorem dL_law_938 : decode cL_law 938 = .ok (.aload_n 0, 1) := by decide +kernel
theorem dL_law_939 : decode cL_law 939 = .ok (.iload_n 3, 1) := by decide +kernel
theorem dL_law_940 : decode cL_law 940 = .ok (.iconst 1, 1) := by decide +kernel
theorem dL_law_941 : decode cL_law 941 = .ok (.iadd, 1) := by decide +kernel
theorem dL_law_942 : decode cL_law 942 = .ok (.iaload, 1) := by decide +kernel
theorem dL_law_943 : decode cL_law 943 = .ok (.invokevirtual 117, 3) := by decide +kernel
theorem dL_law_946 : decode cL_law 946 = .ok (.if_icmp .eq 333, 3) := by decide +kernel
theorem dL_law_949 : decode cL_law 949 = .ok (.iconst 0, 1) := by decide +kernel
theorem dL_law_950 : decode cL_law 950 = .ok (.ireturn, 1) := by decide +kernel
theorem dL_law_951 : decode cL_law 951 = .ok (.aload_n 1, 1) := by decide +kernel
theorem dL_law_952 : decode cL_law 952 = .ok (.aload_n 0, 1) := by decide +kernel
theorem dL_law_953 : decode cL_law 953 = .ok (.iload_n 3, 1) := by decide +kernel
theorem dL_law_954 : decode cL_law 954 = .ok (.iconst 1, 1) := by decide +kernel
theorem dL_law_955 : decode cL_law 955 = .ok (.iadd, 1) := by decide +kernel
theorem dL_law_956 : decode cL_law 956 = .ok (.iaload, 1) := by decide +kernel
theorem dL_law_957 : decode cL_law 957 = .ok (.invokevirtual 118, 3) := by decide +kernel
theorem dL_law_960 : decode cL_law 960 = .ok (.aload_n 2, 1) := by decide +kernel
theorem dL_law_961 : decode cL_law 961 = .ok (.aload_n 0, 1) := by decide +kernel
theorem dL_law_962 : decode cL_law 962 = .ok (.iload_n 3, 1) := by decide +kernel
theorem dL_law_963 : decode cL_law 963 = .ok (.iconst 1, 1) := by decide +kernel
theorem dL_law_964 : decode cL_law 964 = .ok (.iadd, 1) := by decide +kernel
theorem dL_law_965 : decode cL_law 965 = .ok (.iaload, 1) := by decide +kernel
theorem dL_law_966 : decode cL_law 966 = .ok (.invokevirtual 121, 3) := by decide +kernel
theorem dL_law_969 : decode cL_law 969 = .ok (.if_icmp .eq 310, 3) := by decide +kernel
theorem dL_law_972 : decode cL_law 972 = .ok (.iconst 0, 1) := by decide +kernel
theorem dL_law_973 : decode cL_law 973 = .ok (.ireturn, 1) := by decide +kernel
theorem dL_law_974 : decode cL_law 974 = .ok (.aload_n 1, 1) := by decide +kernel
theorem dL_law_975 : decode cL_law 975 = .ok (.aload_n 0, 1) := by decide +kernel
theorem dL_law_976 : decode cL_law 976 = .ok (.iload_n 3, 1) := by decide +kernel
theorem dL_law_977 : decode cL_law 977 = .ok (.iconst 1, 1) := by decide +kernel
theorem dL_law_978 : decode cL_law 978 = .ok (.iadd, 1) := by decide +kernel
theorem dL_law_979 : decode cL_law 979 = .ok (.iaload, 1) := by decide +kernel
theorem dL_law_980 : decode cL_law 980 = .ok (.invokevirtual 122, 3) := by decide +kernel
theorem dL_law_983 : decode cL_law 983 = .ok (.aload_n 2, 1) := by decide +kernel
theorem dL_law_984 : decode cL_law 984 = .ok (.aload_n 0, 1) := by decide +kernel
theorem dL_law_985 : decode cL_law 985 = .ok (.iload_n 3, 1) := by decide +kernel
theorem dL_law_986 : decode cL_law 986 = .ok (.iconst 1, 1) := by decide +kernel
theorem dL_law_987 : decode cL_law 987 = .ok (.iadd, 1) := by decide +kernel
theorem dL_law_988 : decode cL_law 988 = .ok (.iaload, 1) := by decide +kernel
theorem dL_law_989 : decode cL_law 989 = .ok (.invokevirtual 125, 3) := by decide +kernel
theorem dL_law_992 : decode cL_law 992 = .ok (.if_icmp .eq 287, 3) := by decide +kernel
theorem dL_law_995 : decode cL_law 995 = .ok (.iconst 0, 1) := by decide +kernel
theorem dL_law_996 : decode cL_law 996 = .ok (.ireturn, 1) := by decide +kernel
theorem dL_law_997 : decode cL_law 997 = .ok (.aload_n 1, 1) := by decide +kernel
theorem dL_law_998 : decode cL_law 998 = .ok (.aload_n 0, 1) := by decide +kernel
theorem dL_law_999 : decode cL_law 999 = .ok (.iload_n 3, 1) := by decide +kernel
theorem dL_law_1000 : decode cL_law 1000 = .ok (.iconst 1, 1) := by decide +kernel
theorem dL_law_1001 : decode cL_law 1001 = .ok (.iadd, 1) := by decide +kernel
theorem dL_law_1002 : decode cL_law 1002 = .ok (.iaload, 1) := by decide +kernel
theorem dL_law_1003 : decode cL_law 1003 = .ok (.invokevirtual 126, 3) := by decide +kernel
theorem dL_law_1006 : decode cL_law 1006 = .ok (.aload_n 2, 1) := by decide +kernel
theorem dL_law_1007 : decode cL_law 1007 = .ok (.aload_n 0, 1) := by decide +kernel
theorem dL_law_1008 : decode cL_law 1008 = .ok (.iload_n 3, 1) := by decide +kernel
theorem dL_law_1009 : decode cL_law 1009 = .ok (.iconst 1, 1) := by decide +kernel
theorem dL_law_1010 : decode cL_law 1010 = .ok (.iadd, 1) := by decide +kernel
theorem dL_law_1011 : decode cL_law 1011 = .ok (.iaload, 1) := by decide +kernel
theorem dL_law_1012 : decode cL_law 1012 = .ok (.invokevirtual 129, 3) := by decide +kernel
theorem dL_law_1015 : decode cL_law 1015 = .ok (.if_icmp .eq 264, 3) := by decide +kernel
theorem dL_law_1018 : decode cL_law 1018 = .ok (.iconst 0, 1) := by decide +kernel
theorem dL_law_1019 : decode cL_law 1019 = .ok (.ireturn, 1) := by decide +kernel
theorem dL_law_1020 : decode cL_law 1020 = .ok (.aload_n 1, 1) := by decide +kernel
theorem dL_law_1021 : decode cL_law 1021 = .ok (.aload_n 0, 1) := by decide +kernel
theorem dL_law_1022 : decode cL_law 1022 = .ok (.iload_n 3, 1) := by decide +kernel
theorem dL_law_1023 : decode cL_law 1023 = .ok (.iconst 1, 1) := by decide +kernel
theorem dL_law_1024 : decode cL_law 1024 = .ok (.iadd, 1) := by decide +kernel
theorem dL_law_1025 : decode cL_law 1025 = .ok (.iaload, 1) := by decide +kernel
theorem dL_law_1026 : decode cL_law 1026 = .ok (.aload_n 0, 1) := by decide +kernel
theorem dL_law_1027 : decode cL_law 1027 = .ok (.iload_n 3, 1) := by decide +kernel
theorem dL_law_1028 : decode cL_law 1028 = .ok (.iconst 2, 1) := by decide +kernel
theorem dL_law_1029 : decode cL_law 1029 = .ok (.iadd, 1) := by decide +kernel
theorem dL_law_1030 : decode cL_law 1030 = .ok (.iaload, 1) := by decide +kernel
theorem dL_law_1031 : decode cL_law 1031 = .ok (.aload_n 0, 1) := by decide +kernel
theorem dL_law_1032 : decode cL_law 1032 = .ok (.iload_n 3, 1) := by decide +kernel
theorem dL_law_1033 : decode cL_law 1033 = .ok (.iconst 3, 1) := by decide +kernel
theorem dL_law_1034 : decode cL_law 1034 = .ok (.iadd, 1) := by decide +kernel
theorem dL_law_1035 : decode cL_law 1035 = .ok (.iaload, 1) := by decide +kernel
theorem dL_law_1036 : decode cL_law 1036 = .ok (.aload_n 0, 1) := by decide +kernel
theorem dL_law_1037 : decode cL_law 1037 = .ok (.iload_n 3, 1) := by decide +kernel
theorem dL_law_1038 : decode cL_law 1038 = .ok (.iconst 4, 1) := by decide +kernel
theorem dL_law_1039 : decode cL_law 1039 = .ok (.iadd, 1) := by decide +kernel
theorem dL_law_1040 : decode cL_law 1040 = .ok (.iaload, 1) := by decide +kernel
theorem dL_law_1041 : decode cL_law 1041 = .ok (.invokevirtual 130, 3) := by decide +kernel
theorem dL_law_1044 : decode cL_law 1044 = .ok (.aload_n 2, 1) := by decide +kernel
theorem dL_law_1045 : decode cL_law 1045 = .ok (.aload_n 0, 1) := by decide +kernel
theorem dL_law_1046 : decode cL_law 1046 = .ok (.iload_n 3, 1) := by decide +kernel
theorem dL_law_1047 : decode cL_law 1047 = .ok (.iconst 1, 1) := by decide +kernel
theorem dL_law_1048 : decode cL_law 1048 = .ok (.iadd, 1) := by decide +kernel
theorem dL_law_1049 : decode cL_law 1049 = .ok (.iaload, 1) := by decide +kernel
theorem dL_law_1050 : decode cL_law 1050 = .ok (.aload_n 0, 1) := by decide +kernel
theorem dL_law_1051 : decode cL_law 1051 = .ok (.iload_n 3, 1) := by decide +kernel
theorem dL_law_1052 : decode cL_law 1052 = .ok (.iconst 2, 1) := by decide +kernel
theorem dL_law_1053 : decode cL_law 1053 = .ok (.iadd, 1) := by decide +kernel
theorem dL_law_1054 : decode cL_law 1054 = .ok (.iaload, 1) := by decide +kernel
theorem dL_law_1055 : decode cL_law 1055 = .ok (.aload_n 0, 1) := by decide +kernel
theorem dL_law_1056 : decode cL_law 1056 = .ok (.iload_n 3, 1) := by decide +kernel
theorem dL_law_1057 : decode cL_law 1057 = .ok (.iconst 3, 1) := by decide +kernel
theorem dL_law_1058 : decode cL_law 1058 = .ok (.iadd, 1) := by decide +kernel
theorem dL_law_1059 : decode cL_law 1059 = .ok (.iaload, 1) := by decide +kernel
theorem dL_law_1060 : decode cL_law 1060 = .ok (.aload_n 0, 1) := by decide +kernel
theorem dL_law_1061 : decode cL_law 1061 = .ok (.iload_n 3, 1) := by decide +kernel
theorem dL_law_1062 : decode cL_law 1062 = .ok (.iconst 4, 1) := by decide +kernel
theorem dL_law_1063 : decode cL_law 1063 = .ok (.iadd, 1) := by decide +kernel
theorem dL_law_1064 : decode cL_law 1064 = .ok (.iaload, 1) := by decide +kernel
theorem dL_law_1065 : decode cL_law 1065 = .ok (.invokevirtual 133, 3) := by decide +kernel
theorem dL_law_1068 : decode cL_law 1068 = .ok (.if_icmp .eq 211, 3) := by decide +kernel
theorem dL_law_1071 : decode cL_law 1071 = .ok (.iconst 0, 1) := by decide +kernel
theorem dL_law_1072 : decode cL_law 1072 = .ok (.ireturn, 1) := by decide +kernel
theorem dL_law_1073 : decode cL_law 1073 = .ok (.aload_n 1, 1) := by decide +kernel
theorem dL_law_1074 : decode cL_law 1074 = .ok (.aload_n 0, 1) := by decide +kernel
theorem dL_law_1075 : decode cL_law 1075 = .ok (.iload_n 3, 1) := by decide +kernel
theorem dL_law_1076 : decode cL_law 1076 = .ok (.iconst 1, 1) := by decide +kernel
theorem dL_law_1077 : decode cL_law 1077 = .ok (.iadd, 1) := by decide +kernel
theorem dL_law_1078 : decode cL_law 1078 = .ok (.iaload, 1) := by decide +kernel
theorem dL_law_1079 : decode cL_law 1079 = .ok (.aload_n 0, 1) := by decide +kernel
theorem dL_law_1080 : decode cL_law 1080 = .ok (.iload_n 3, 1) := by decide +kernel
theorem dL_law_1081 : decode cL_law 1081 = .ok (.iconst 2, 1) := by decide +kernel
theorem dL_law_1082 : decode cL_law 1082 = .ok (.iadd, 1) := by decide +kernel
theorem dL_law_1083 : decode cL_law 1083 = .ok (.iaload, 1) := by decide +kernel
theorem dL_law_1084 : decode cL_law 1084 = .ok (.aload_n 0, 1) := by decide +kernel
theorem dL_law_1085 : decode cL_law 1085 = .ok (.iload_n 3, 1) := by decide +kernel
theorem dL_law_1086 : decode cL_law 1086 = .ok (.iconst 3, 1) := by decide +kernel
theorem dL_law_1087 : decode cL_law 1087 = .ok (.iadd, 1) := by decide +kernel
theorem dL_law_1088 : decode cL_law 1088 = .ok (.iaload, 1) := by decide +kernel
theorem dL_law_1089 : decode cL_law 1089 = .ok (.invokevirtual 134, 3) := by decide +kernel
theorem dL_law_1092 : decode cL_law 1092 = .ok (.aload_n 2, 1) := by decide +kernel
theorem dL_law_1093 : decode cL_law 1093 = .ok (.aload_n 0, 1) := by decide +kernel
theorem dL_law_1094 : decode cL_law 1094 = .ok (.iload_n 3, 1) := by decide +kernel
theorem dL_law_1095 : decode cL_law 1095 = .ok (.iconst 1, 1) := by decide +kernel
theorem dL_law_1096 : decode cL_law 1096 = .ok (.iadd, 1) := by decide +kernel
theorem dL_law_1097 : decode cL_law 1097 = .ok (.iaload, 1) := by decide +kernel
theorem dL_law_1098 : decode cL_law 1098 = .ok (.aload_n 0, 1) := by decide +kernel
theorem dL_law_1099 : decode cL_law 1099 = .ok (.iload_n 3, 1) := by decide +kernel
theorem dL_law_1100 : decode cL_law 1100 = .ok (.iconst 2, 1) := by decide +kernel
theorem dL_law_1101 : decode cL_law 1101 = .ok (.iadd, 1) := by decide +kernel
theorem dL_law_1102 : decode cL_law 1102 = .ok (.iaload, 1) := by decide +kernel
theorem dL_law_1103 : decode cL_law 1103 = .ok (.aload_n 0, 1) := by decide +kernel
theorem dL_law_1104 : decode cL_law 1104 = .ok (.iload_n 3, 1) := by decide +kernel
theorem dL_law_1105 : decode cL_law 1105 = .ok (.iconst 3, 1) := by decide +kernel
theorem dL_law_1106 : decode cL_law 1106 = .ok (.iadd, 1) := by decide +kernel
theorem dL_law_1107 : decode cL_law 1107 = .ok (.iaload, 1) := by decide +kernel
theorem dL_law_1108 : decode cL_law 1108 = .ok (.invokevirtual 137, 3) := by decide +kernel
theorem dL_law_1111 : decode cL_law 1111 = .ok (.if_icmp .eq 168, 3) := by decide +kernel
theorem dL_law_1114 : decode cL_law 1114 = .ok (.iconst 0, 1) := by decide +kernel
theorem dL_law_1115 : decode cL_law 1115 = .ok (.ireturn, 1) := by decide +kernel
theorem dL_law_1116 : decode cL_law 1116 = .ok (.aload_n 1, 1) := by decide +kernel
theorem dL_law_1117 : decode cL_law 1117 = .ok (.aload_n 0, 1) := by decide +kernel
theorem dL_law_1118 : decode cL_law 1118 = .ok (.iload_n 3, 1) := by decide +kernel
theorem dL_law_1119 : decode cL_law 1119 = .ok (.iconst 1, 1) := by decide +kernel
theorem dL_law_1120 : decode cL_law 1120 = .ok (.iadd, 1) := by decide +kernel
theorem dL_law_1121 : decode cL_law 1121 = .ok (.iaload, 1) := by decide +kernel
theorem dL_law_1122 : decode cL_law 1122 = .ok (.aload_n 0, 1) := by decide +kernel
theorem dL_law_1123 : decode cL_law 1123 = .ok (.iload_n 3, 1) := by decide +kernel
theorem dL_law_1124 : decode cL_law 1124 = .ok (.iconst 2, 1) := by decide +kernel
theorem dL_law_1125 : decode cL_law 1125 = .ok (.iadd, 1) := by decide +kernel
theorem dL_law_1126 : decode cL_law 1126 = .ok (.iaload, 1) := by decide +kernel
theorem dL_law_1127 : decode cL_law 1127 = .ok (.invokevirtual 138, 3) := by decide +kernel
theorem dL_law_1130 : decode cL_law 1130 = .ok (.aload_n 2, 1) := by decide +kernel
theorem dL_law_1131 : decode cL_law 1131 = .ok (.aload_n 0, 1) := by decide +kernel
theorem dL_law_1132 : decode cL_law 1132 = .ok (.iload_n 3, 1) := by decide +kernel
theorem dL_law_1133 : decode cL_law 1133 = .ok (.iconst 1, 1) := by decide +kernel
theorem dL_law_1134 : decode cL_law 1134 = .ok (.iadd, 1) := by decide +kernel
theorem dL_law_1135 : decode cL_law 1135 = .ok (.iaload, 1) := by decide +kernel
theorem dL_law_1136 : decode cL_law 1136 = .ok (.aload_n 0, 1) := by decide +kernel
theorem dL_law_1137 : decode cL_law 1137 = .ok (.iload_n 3, 1) := by decide +kernel
theorem dL_law_1138 : decode cL_law 1138 = .ok (.iconst 2, 1) := by decide +kernel
theorem dL_law_1139 : decode cL_law 1139 = .ok (.iadd, 1) := by decide +kernel
theorem dL_law_1140 : decode cL_law 1140 = .ok (.iaload, 1) := by decide +kernel
theorem dL_law_1141 : decode cL_law 1141 = .ok (.invokevirtual 141, 3) := by decide +kernel
theorem dL_law_1144 : decode cL_law 1144 = .ok (.if_icmp .eq 135, 3) := by decide +kernel
theorem dL_law_1147 : decode cL_law 1147 = .ok (.iconst 0, 1) := by decide +kernel
theorem dL_law_1148 : decode cL_law 1148 = .ok (.ireturn, 1) := by decide +kernel
theorem dL_law_1149 : decode cL_law 1149 = .ok (.aload_n 1, 1) := by decide +kernel
theorem dL_law_1150 : decode cL_law 1150 = .ok (.aload_n 0, 1) := by decide +kernel
theorem dL_law_1151 : decode cL_law 1151 = .ok (.iload_n 3, 1) := by decide +kernel
theorem dL_law_1152 : decode cL_law 1152 = .ok (.iconst 1, 1) := by decide +kernel
theorem dL_law_1153 : decode cL_law 1153 = .ok (.iadd, 1) := by decide +kernel
theorem dL_law_1154 : decode cL_law 1154 = .ok (.iaload, 1) := by decide +kernel
theorem dL_law_1155 : decode cL_law 1155 = .ok (.invokevirtual 142, 3) := by decide +kernel
theorem dL_law_1158 : decode cL_law 1158 = .ok (.aload_n 2, 1) := by decide +kernel
theorem dL_law_1159 : decode cL_law 1159 = .ok (.aload_n 0, 1) := by decide +kernel
theorem dL_law_1160 : decode cL_law 1160 = .ok (.iload_n 3, 1) := by decide +kernel
theorem dL_law_1161 : decode cL_law 1161 = .ok (.iconst 1, 1) := by decide +kernel
theorem dL_law_1162 : decode cL_law 1162 = .ok (.iadd, 1) := by decide +kernel
theorem dL_law_1163 : decode cL_law 1163 = .ok (.iaload, 1) := by decide +kernel
theorem dL_law_1164 : decode cL_law 1164 = .ok (.invokevirtual 146, 3) := by decide +kernel
theorem dL_law_1167 : decode cL_law 1167 = .ok (.lcmp, 1) := by decide +kernel
theorem dL_law_1168 : decode cL_law 1168 = .ok (.ifCond .eq 111, 3) := by decide +kernel
theorem dL_law_1171 : decode cL_law 1171 = .ok (.iconst 0, 1) := by decide +kernel
theorem dL_law_1172 : decode cL_law 1172 = .ok (.ireturn, 1) := by decide +kernel
theorem dL_law_1173 : decode cL_law 1173 = .ok (.aload_n 1, 1) := by decide +kernel
theorem dL_law_1174 : decode cL_law 1174 = .ok (.aload_n 0, 1) := by decide +kernel
theorem dL_law_1175 : decode cL_law 1175 = .ok (.iload_n 3, 1) := by decide +kernel
theorem dL_law_1176 : decode cL_law 1176 = .ok (.iconst 1, 1) := by decide +kernel
theorem dL_law_1177 : decode cL_law 1177 = .ok (.iadd, 1) := by decide +kernel
theorem dL_law_1178 : decode cL_law 1178 = .ok (.iaload, 1) := by decide +kernel
theorem dL_law_1179 : decode cL_law 1179 = .ok (.invokevirtual 147, 3) := by decide +kernel
theorem dL_law_1182 : decode cL_law 1182 = .ok (.aload_n 2, 1) := by decide +kernel
theorem dL_law_1183 : decode cL_law 1183 = .ok (.aload_n 0, 1) := by decide +kernel
theorem dL_law_1184 : decode cL_law 1184 = .ok (.iload_n 3, 1) := by decide +kernel
theorem dL_law_1185 : decode cL_law 1185 = .ok (.iconst 1, 1) := by decide +kernel
theorem dL_law_1186 : decode cL_law 1186 = .ok (.iadd, 1) := by decide +kernel
theorem dL_law_1187 : decode cL_law 1187 = .ok (.iaload, 1) := by decide +kernel
theorem dL_law_1188 : decode cL_law 1188 = .ok (.invokevirtual 150, 3) := by decide +kernel
theorem dL_law_1191 : decode cL_law 1191 = .ok (.if_icmp .eq 88, 3) := by decide +kernel
theorem dL_law_1194 : decode cL_law 1194 = .ok (.iconst 0, 1) := by decide +kernel
theorem dL_law_1195 : decode cL_law 1195 = .ok (.ireturn, 1) := by decide +kernel
theorem dL_law_1196 : decode cL_law 1196 = .ok (.aload_n 1, 1) := by decide +kernel
theorem dL_law_1197 : decode cL_law 1197 = .ok (.aload_n 0, 1) := by decide +kernel
theorem dL_law_1198 : decode cL_law 1198 = .ok (.iload_n 3, 1) := by decide +kernel
theorem dL_law_1199 : decode cL_law 1199 = .ok (.iconst 1, 1) := by decide +kernel
theorem dL_law_1200 : decode cL_law 1200 = .ok (.iadd, 1) := by decide +kernel
theorem dL_law_1201 : decode cL_law 1201 = .ok (.iaload, 1) := by decide +kernel
theorem dL_law_1202 : decode cL_law 1202 = .ok (.invokevirtual 151, 3) := by decide +kernel
theorem dL_law_1205 : decode cL_law 1205 = .ok (.aload_n 2, 1) := by decide +kernel
theorem dL_law_1206 : decode cL_law 1206 = .ok (.aload_n 0, 1) := by decide +kernel
theorem dL_law_1207 : decode cL_law 1207 = .ok (.iload_n 3, 1) := by decide +kernel
theorem dL_law_1208 : decode cL_law 1208 = .ok (.iconst 1, 1) := by decide +kernel
theorem dL_law_1209 : decode cL_law 1209 = .ok (.iadd, 1) := by decide +kernel
theorem dL_law_1210 : decode cL_law 1210 = .ok (.iaload, 1) := by decide +kernel
theorem dL_law_1211 : decode cL_law 1211 = .ok (.invokevirtual 154, 3) := by decide +kernel
theorem dL_law_1214 : decode cL_law 1214 = .ok (.if_icmp .eq 65, 3) := by decide +kernel
theorem dL_law_1217 : decode cL_law 1217 = .ok (.iconst 0, 1) := by decide +kernel
theorem dL_law_1218 : decode cL_law 1218 = .ok (.ireturn, 1) := by decide +kernel
theorem dL_law_1219 : decode cL_law 1219 = .ok (.aload_n 1, 1) := by decide +kernel
theorem dL_law_1220 : decode cL_law 1220 = .ok (.aload_n 0, 1) := by decide +kernel
theorem dL_law_1221 : decode cL_law 1221 = .ok (.iload_n 3, 1) := by decide +kernel
theorem dL_law_1222 : decode cL_law 1222 = .ok (.iconst 1, 1) := by decide +kernel
theorem dL_law_1223 : decode cL_law 1223 = .ok (.iadd, 1) := by decide +kernel
theorem dL_law_1224 : decode cL_law 1224 = .ok (.iaload, 1) := by decide +kernel
theorem dL_law_1225 : decode cL_law 1225 = .ok (.invokevirtual 155, 3) := by decide +kernel
theorem dL_law_1228 : decode cL_law 1228 = .ok (.aload_n 2, 1) := by decide +kernel
theorem dL_law_1229 : decode cL_law 1229 = .ok (.aload_n 0, 1) := by decide +kernel
theorem dL_law_1230 : decode cL_law 1230 = .ok (.iload_n 3, 1) := by decide +kernel
theorem dL_law_1231 : decode cL_law 1231 = .ok (.iconst 1, 1) := by decide +kernel
theorem dL_law_1232 : decode cL_law 1232 = .ok (.iadd, 1) := by decide +kernel
theorem dL_law_1233 : decode cL_law 1233 = .ok (.iaload, 1) := by decide +kernel
theorem dL_law_1234 : decode cL_law 1234 = .ok (.invokevirtual 158, 3) := by decide +kernel
theorem dL_law_1237 : decode cL_law 1237 = .ok (.if_icmp .eq 42, 3) := by decide +kernel
theorem dL_law_1240 : decode cL_law 1240 = .ok (.iconst 0, 1) := by decide +kernel
theorem dL_law_1241 : decode cL_law 1241 = .ok (.ireturn, 1) := by decide +kernel
theorem dL_law_1242 : decode cL_law 1242 = .ok (.aload_n 1, 1) := by decide +kernel
theorem dL_law_1243 : decode cL_law 1243 = .ok (.aload_n 0, 1) := by decide +kernel
theorem dL_law_1244 : decode cL_law 1244 = .ok (.iload_n 3, 1) := by decide +kernel
theorem dL_law_1245 : decode cL_law 1245 = .ok (.iconst 1, 1) := by decide +kernel
theorem dL_law_1246 : decode cL_law 1246 = .ok (.iadd, 1) := by decide +kernel
theorem dL_law_1247 : decode cL_law 1247 = .ok (.iaload, 1) := by decide +kernel
theorem dL_law_1248 : decode cL_law 1248 = .ok (.invokevirtual 159, 3) := by decide +kernel
theorem dL_law_1251 : decode cL_law 1251 = .ok (.aload_n 2, 1) := by decide +kernel
theorem dL_law_1252 : decode cL_law 1252 = .ok (.aload_n 0, 1) := by decide +kernel
theorem dL_law_1253 : decode cL_law 1253 = .ok (.iload_n 3, 1) := by decide +kernel
theorem dL_law_1254 : decode cL_law 1254 = .ok (.iconst 1, 1) := by decide +kernel
theorem dL_law_1255 : decode cL_law 1255 = .ok (.iadd, 1) := by decide +kernel
theorem dL_law_1256 : decode cL_law 1256 = .ok (.iaload, 1) := by decide +kernel
theorem dL_law_1257 : decode cL_law 1257 = .ok (.invokevirtual 162, 3) := by decide +kernel
theorem dL_law_1260 : decode cL_law 1260 = .ok (.if_icmp .eq 19, 3) := by decide +kernel
theorem dL_law_1263 : decode cL_law 1263 = .ok (.iconst 0, 1) := by decide +kernel
theorem dL_law_1264 : decode cL_law 1264 = .ok (.ireturn, 1) := by decide +kernel
theorem dL_law_1265 : decode cL_law 1265 = .ok (.aload_n 1, 1) := by decide +kernel
theorem dL_law_1266 : decode cL_law 1266 = .ok (.invokevirtual 163, 3) := by decide +kernel
theorem dL_law_1269 : decode cL_law 1269 = .ok (.aload_n 2, 1) := by decide +kernel
theorem dL_law_1270 : decode cL_law 1270 = .ok (.invokevirtual 167, 3) := by decide +kernel
theorem dL_law_1273 : decode cL_law 1273 = .ok (.lcmp, 1) := by decide +kernel
theorem dL_law_1274 : decode cL_law 1274 = .ok (.ifCond .eq 5, 3) := by decide +kernel
theorem dL_law_1277 : decode cL_law 1277 = .ok (.iconst 0, 1) := by decide +kernel
theorem dL_law_1278 : decode cL_law 1278 = .ok (.ireturn, 1) := by decide +kernel
theorem dL_law_1279 : decode cL_law 1279 = .ok (.iinc 3 5, 3) := by decide +kernel
theorem dL_law_1282 : decode cL_law 1282 = .ok (.goto (-1264), 3) := by decide +kernel
theorem dL_law_1285 : decode cL_law 1285 = .ok (.iconst 1, 1) := by decide +kernel
theorem dL_law_1286 : decode cL_law 1286 = .ok (.ireturn, 1) := by decide +kernel
end
section
/-! the frame: a flat memory M (ints, longs, references that change), the still part E of the world (addresses, kinds, lengths, references that stay), and the judgement G over the kit's W -/
section Frame
/-- the words that every method may carry -/
def lw_g : List Cond := lw_tbl.filter goodWord
theorem lwg {w : Cond} (h : w ∈ lw_tbl) (h2 : goodWord w = true) : w ∈ lw_g := List.mem_filter.mpr ⟨h, h2⟩
set_option maxRecDepth 100000 in
theorem inG0 : ∀ w ∈ wsX00, w ∈ lw_g := fun w h => lwg (inX0 w h) (List.all_eq_true.mp (show (wsX00).all goodWord = true by decide +kernel) w h)
set_option maxRecDepth 100000 in
theorem inG1 : ∀ w ∈ wsX10, w ∈ lw_g := fun w h => lwg (inX1 w h) (List.all_eq_true.mp (show (wsX10).all goodWord = true by decide +kernel) w h)
set_option maxRecDepth 100000 in
theorem inG2 : ∀ w ∈ wsX20, w ∈ lw_g := fun w h => lwg (inX2 w h) (List.all_eq_true.mp (show (wsX20).all goodWord = true by decide +kernel) w h)
set_option maxRecDepth 100000 in
theorem inG3 : ∀ w ∈ wsX30, w ∈ lw_g := fun w h => lwg (inX3 w h) (List.all_eq_true.mp (show (wsX30).all goodWord = true by decide +kernel) w h)
set_option maxRecDepth 100000 in
theorem inG4 : ∀ w ∈ wsX40, w ∈ lw_g := fun w h => lwg (inX4 w h) (List.all_eq_true.mp (show (wsX40).all goodWord = true by decide +kernel) w h)
set_option maxRecDepth 100000 in
theorem inG5 : ∀ w ∈ wsX50, w ∈ lw_g := fun w h => lwg (inX5 w h) (List.all_eq_true.mp (show (wsX50).all goodWord = true by decide +kernel) w h)
set_option maxRecDepth 100000 in
theorem inG6 : ∀ w ∈ wsX60, w ∈ lw_g := fun w h => lwg (inX6 w h) (List.all_eq_true.mp (show (wsX60).all goodWord = true by decide +kernel) w h)
set_option maxRecDepth 100000 in
theorem inG7 : ∀ w ∈ wsX70, w ∈ lw_g := fun w h => lwg (inX7 w h) (List.all_eq_true.mp (show (wsX70).all goodWord = true by decide +kernel) w h)
set_option maxRecDepth 100000 in
theorem inG8 : ∀ w ∈ wsX80, w ∈ lw_g := fun w h => lwg (inX8 w h) (List.all_eq_true.mp (show (wsX80).all goodWord = true by decide +kernel) w h)
set_option maxRecDepth 100000 in
theorem inG9 : ∀ w ∈ wsX90, w ∈ lw_g := fun w h => lwg (inX9 w h) (List.all_eq_true.mp (show (wsX90).all goodWord = true by decide +kernel) w h)
abbrev Mem : Type := (Nat → Nat → Int32) × (Nat → Nat → Int64) × (Nat → Nat → Nat)
def mi (M : Mem) (q k : Nat) : Int32 := M.1 q k
def ml (M : Mem) (q k : Nat) : Int64 := M.2.1 q k
def mr (M : Mem) (q k : Nat) : Nat := M.2.2 q k
def wi (M : Mem) (a k : Nat) (v : Int32) : Mem := (fun q j => if q = a ∧ j = k then v else M.1 q j, M.2.1, M.2.2)
def wl (M : Mem) (a k : Nat) (v : Int64) : Mem := (M.1, fun q j => if q = a ∧ j = k then v else M.2.1 q j, M.2.2)
def wr (M : Mem) (a k : Nat) (v : Nat) : Mem := (M.1, M.2.1, fun q j => if q = a ∧ j = k then v else M.2.2 q j)
theorem mi_wi (M : Mem) (a k : Nat) (v : Int32) (q j : Nat) : mi (wi M a k v) q j = if q = a ∧ j = k then v else mi M q j := rfl
theorem mi_wl (M : Mem) (a k : Nat) (v : Int64) (q j : Nat) : mi (wl M a k v) q j = mi M q j := rfl
theorem mi_wr (M : Mem) (a k : Nat) (v : Nat) (q j : Nat) : mi (wr M a k v) q j = mi M q j := rfl
theorem ml_wi (M : Mem) (a k : Nat) (v : Int32) (q j : Nat) : ml (wi M a k v) q j = ml M q j := rfl
theorem ml_wl (M : Mem) (a k : Nat) (v : Int64) (q j : Nat) : ml (wl M a k v) q j = if q = a ∧ j = k then v else ml M q j := rfl
theorem ml_wr (M : Mem) (a k : Nat) (v : Nat) (q j : Nat) : ml (wr M a k v) q j = ml M q j := rfl
theorem mr_wi (M : Mem) (a k : Nat) (v : Int32) (q j : Nat) : mr (wi M a k v) q j = mr M q j := rfl
theorem mr_wl (M : Mem) (a k : Nat) (v : Int64) (q j : Nat) : mr (wl M a k v) q j = mr M q j := rfl
theorem mr_wr (M : Mem) (a k : Nat) (v : Nat) (q j : Nat) : mr (wr M a k v) q j = if q = a ∧ j = k then v else mr M q j := rfl
/-- addresses, kinds, lengths, still references, the first address of ours, the tables' numbers -/
abbrev Env1 : Type := List Nat × (Nat → Nat) × (Nat → Nat) × (Nat → Nat → Option Nat) × Nat × va_G × (Nat → ClassId)
def eL (E : Env1) : List Nat := E.1
def eK (E : Env1) : Nat → Nat := E.2.1
def eN (E : Env1) : Nat → Nat := E.2.2.1
def eR (E : Env1) : Nat → Nat → Option Nat := E.2.2.2.1
def eB (E : Env1) : Nat := E.2.2.2.2.1
def eD (E : Env1) : va_G := E.2.2.2.2.2.1
def eC (E : Env1) : Nat → ClassId := E.2.2.2.2.2.2
def rr (E : Env1) (q k : Nat) : Nat := (eR E q k).getD 0
def flds (E : Env1) (M : Mem) (a : Nat) : Nat → List Nat → List Value
  | _, [] => []
  | k, t :: ts => (if t = 0 then Value.int (mi M a k) else if t = 1 then Value.long (ml M a k) else va_rf (eR E a k)) :: flds E M a (k + 1) ts

def tg : Nat → List Nat := fun c => match c with
  | 0 => [0, 2, 2, 2, 2, 0, 2, 2, 2, 2, 2]
  | 1 => []
  | 2 => [2, 2, 2, 0, 0]
  | 3 => [0, 2]
  | 4 => [2, 2, 2, 0, 0]
  | 5 => []
  | 6 => [0, 2, 0, 0, 0, 0, 0, 0, 2, 0]
  | 7 => [2, 2, 2, 2, 2, 2, 1, 1, 0, 0, 0]
  | _ => [2, 0, 0, 0, 0, 0, 0, 2, 2, 2, 2, 2, 2, 2, 2, 2, 0, 0, 0, 2, 2, 0, 2, 2, 2, 1, 1, 2, 2, 1]
def cel (E : Env1) (M : Mem) (a : Nat) : va_E :=
  if eK E a = 9 then .inl (eC E 9, eN E a, .inl (mi M a))
  else if eK E a = 10 then .inl (eC E 10, eN E a, .inr (.inl (ml M a)))
  else if eK E a = 11 then .inl (eC E 11, eN E a, .inl (mi M a))
  else if eK E a = 12 then .inl (eC E 12, eN E a, .inr (.inr (.inr (.inr (eR E a)))))
  else if eK E a = 13 then .inl (eC E 13, eN E a, .inr (.inr (.inr (.inr (fun j => (eR E a j).map (fun _ => mr M a j))))))
  else .inr (eK E a, flds E M a 0 (tg (eK E a)))
def isK (E : Env1) (q c : Nat) : Prop := q ∈ eL E ∧ eK E q = c
def isA (E : Env1) (q c n : Nat) : Prop := q ∈ eL E ∧ eK E q = c ∧ eN E q = n
def fK (E : Env1) (q k c : Nat) : Prop := eR E q k = some (rr E q k) ∧ isK E (rr E q k) c
def fA (E : Env1) (q k c n : Nat) : Prop := eR E q k = some (rr E q k) ∧ isA E (rr E q k) c n
/-- what the world is once it is made: each reference is where it should be -/
def wf0 (E : Env1) : Prop := ∀ q, isK E q 0 → fA E q 1 9 6 ∧ fA E q 2 9 6 ∧ fK E q 3 4 ∧ fA E q 4 13 8 ∧ fK E q 6 3 ∧ fK E q 7 3 ∧ fK E q 8 3 ∧ fK E q 9 5 ∧ fK E q 10 1
def wf2 (E : Env1) : Prop := ∀ q, isK E q 2 → fA E q 0 9 40 ∧ fA E q 1 9 256 ∧ fA E q 2 9 256
def wf3 (E : Env1) : Prop := ∀ q, isK E q 3 → fA E q 1 9 24
def wf4 (E : Env1) : Prop := ∀ q, isK E q 4 → fA E q 0 9 8 ∧ fA E q 1 9 6 ∧ fA E q 2 9 6
def wf6 (E : Env1) : Prop := ∀ q, isK E q 6 → fA E q 1 9 150 ∧ fA E q 8 9 8
def wf7 (E : Env1) : Prop := ∀ q, isK E q 7 → fK E q 0 0 ∧ fK E q 1 0 ∧ fA E q 2 12 2 ∧ fA E q 3 11 2 ∧ fK E q 4 6 ∧ fK E q 5 2
def wf8 (E : Env1) : Prop := ∀ q, isK E q 8 → fA E q 0 9 3 ∧ fA E q 7 9 6 ∧ fA E q 8 9 6 ∧ fA E q 9 9 6 ∧ fA E q 10 9 6 ∧ fA E q 11 9 8 ∧ fA E q 12 9 18 ∧ fA E q 13 9 24 ∧ fA E q 14 9 24 ∧ fA E q 15 9 150 ∧ fA E q 19 9 300 ∧ fA E q 20 9 176 ∧ fA E q 22 9 22 ∧ fA E q 23 10 164 ∧ fA E q 24 9 24 ∧ fA E q 27 9 600 ∧ fA E q 28 9 2
def wfH (E : Env1) : Prop := ∀ q, isA E q 12 2 → ∀ j, j < 2 → fK E q j 0
def wfS (E : Env1) : Prop := ∀ q, isA E q 13 8 → ∀ j, j < 8 → ∃ a, eR E q j = some a
def WF (E : Env1) : Prop := wf0 E ∧ wf2 E ∧ wf3 E ∧ wf4 E ∧ wf6 E ∧ wf7 E ∧ wf8 E ∧ wfH E ∧ wfS E
/-- the references that change: the stands of a past -/
def WM (E : Env1) (M : Mem) : Prop := ∀ q, isA E q 13 8 → ∀ j, j < 8 → isK E (mr M q j) 4
def tysE (E : Env1) : List (ClassId × FieldType) := [(eC E 9, .int), (eC E 10, .long), (eC E 11, .boolean), (eC E 12, .object "StairManners$House"), (eC E 13, .object "StairManners$Stand")]
/-- words that do not go with every method: they are carried in the world -/
def nwM : List (String × Nat × MethodName × String) := [(RX0, 51, yX6_init, RX8), (RX0, 58, yX2_init, RX8), (RX0, 81, yX8_within, RX8), (RX2, 3, yX1_init, RX8), (RX3, 49, yX8_within, RX8), (RX4, 19, yX8_within, RX8), (RX5, 49, yX8_within, RX8), (RX6, 3, yX1_init, RX8), (RX7, 43, yX8_within, RX8)]
def nwP : List MethodName := [yX1_alike, yX1_fits]
def nwD : List MethodName := [⟨RX1, "answer", "(III)I"⟩, ⟨RX1, "bestQuestion", "(I)I"⟩, yX1_fitting, yX1_mostAlike, yX1_nextQuestion]
def NW (U : State) : Prop := (∀ q ∈ nwM, va_Nw (.methodLinkNest q.1 q.2.1 q.2.2.1 q.2.2.2) U) ∧ (∀ y ∈ nwP, va_Nw (.privateMethod y) U) ∧ (∀ y ∈ nwD, va_Nw (.declares y) U)
theorem NW_warm {s U : State} (hW : s.WarmedH U.vm) (h : NW s) : NW U :=
  ⟨fun q hq => va_Nw.warmM hW (h.1 q hq), fun y hy => va_tabs rfl (rfl : (s.setVm U.vm).vm = U.vm) (by rw [Cond.privateMethod_setVm hW.alike]; exact h.2.1 y hy), fun y hy => va_Nw.warmD hW (h.2.2 y hy)⟩
def eA (E : Env1) : Nat → Prop := fun q => eB E ≤ q
def Wd (E : Env1) (M : Mem) (s : State) (H : Heap) (locs : List Loc) : Prop := va_P (eD E) vwCl (va_pl (eL E) (cel E M)) H ∧ va_D (eA E) (va_pl (eL E) (cel E M)) ∧ va_S (eA E) s.heap H locs
def PreU (E : Env1) (M : Mem) (U : State) : Prop := va_P (eD E) vwCl (va_pl (eL E) (cel E M)) U.heap ∧ va_K (eD E) vwCl (tysE E) U ∧ va_D (eA E) (va_pl (eL E) (cel E M)) ∧ eB E ≤ U.heap.size ∧ WM E M ∧ NW U
/-! locals by their numbers -/
def lvO (ls : Array Slot) (nL : Nat) (L : List (Option Value)) : Prop := ls.size = nL ∧ lv_wf ls ∧ ∀ (i : Nat) (v : Value), L[i]? = some (some v) → ls[i]? = some (.val v)
def asl : Nat → List (Option Value) → List (Nat × Value)
  | _, [] => []
  | i, none :: L => asl (i + 1) L
  | i, some v :: L => (i, v) :: asl (i + 1) L
theorem asl_mem : ∀ (L : List (Option Value)) (i : Nat) (q : Nat × Value), q ∈ asl i L → ∃ j, q.1 = i + j ∧ L[j]? = some (some q.2)
  | [], _, _, h => by simp [asl] at h
  | none :: L, i, q, h => by
    obtain ⟨j, h1, h2⟩ := asl_mem L (i + 1) q h
    exact ⟨j + 1, by omega, by simpa using h2⟩
  | some v :: L, i, q, h => by
    rcases List.mem_cons.mp h with rfl | h
    · exact ⟨0, rfl, rfl⟩
    · obtain ⟨j, h1, h2⟩ := asl_mem L (i + 1) q h
      exact ⟨j + 1, by omega, by simpa using h2⟩
theorem mem_asl : ∀ (L : List (Option Value)) (i j : Nat) (v : Value), L[j]? = some (some v) → (i + j, v) ∈ asl i L
  | [], _, _, _, h => by simp at h
  | none :: L, i, 0, v, h => by simp at h
  | some w :: L, i, 0, v, h => by
    simp at h
    subst h
    exact List.mem_cons_self
  | none :: L, i, j + 1, v, h => by
    have := mem_asl L (i + 1) j v (by simpa using h)
    rw [show i + (j + 1) = i + 1 + j by omega]
    exact this
  | some w :: L, i, j + 1, v, h => by
    have := mem_asl L (i + 1) j v (by simpa using h)
    rw [show i + (j + 1) = i + 1 + j by omega]
    exact List.mem_cons_of_mem _ this
theorem lvO.has {ls : Array Slot} {nL : Nat} {L : List (Option Value)} (h : lvO ls nL L) : lv_has ls nL (asl 0 L) := by
  refine ⟨h.1, h.2.1, fun q hq => ?_⟩
  obtain ⟨j, h1, h2⟩ := asl_mem L 0 q hq
  rw [h1, Nat.zero_add]
  exact h.2.2 j q.2 h2
/-- a value of one slot is stored: what lay before in a long's two slots goes -/
def st1 (i : Nat) (v : Value) : Nat → List (Option Value) → List (Option Value)
  | _, [] => []
  | j, o :: L => (if j = i then some v else if j + 1 = i then (match o with | some (.long _) => none | some (.double _) => none | x => x) else o) :: st1 i v (j + 1) L
def st2 (i : Nat) (v : Value) : Nat → List (Option Value) → List (Option Value)
  | _, [] => []
  | j, o :: L => (if j = i then some v else if j = i + 1 then none else if j + 1 = i then (match o with | some (.long _) => none | some (.double _) => none | x => x) else o) :: st2 i v (j + 1) L
theorem st1_get (i : Nat) (v : Value) : ∀ (L : List (Option Value)) (j n : Nat) (w : Value), (st1 i v j L)[n]? = some (some w) → (j + n = i ∧ w = v) ∨ (j + n ≠ i ∧ L[n]? = some (some w) ∧ (j + n + 1 = i → w.category = 1))
  | [], _, _, _, h => by simp [st1] at h
  | o :: L, j, 0, w, h => by
    simp only [st1, List.getElem?_cons_zero, Option.some.injEq] at h
    by_cases h1 : j = i
    · rw [if_pos h1] at h
      exact Or.inl ⟨h1, (Option.some.inj h).symm⟩
    · rw [if_neg h1] at h
      refine Or.inr ⟨h1, ?_⟩
      by_cases h2 : j + 1 = i
      · rw [if_pos h2] at h
        cases o with
        | none => simp at h
        | some x => cases x <;> simp at h <;> subst h <;> exact ⟨rfl, fun _ => rfl⟩
      · rw [if_neg h2] at h
        exact ⟨by simp [h], fun h3 => absurd h3 h2⟩
  | o :: L, j, n + 1, w, h => by
    have h' : (st1 i v (j + 1) L)[n]? = some (some w) := by simpa [st1] using h
    have := st1_get i v L (j + 1) n w h'
    rw [show j + 1 + n = j + (n + 1) by omega] at this
    simpa using this
theorem st2_get (i : Nat) (v : Value) : ∀ (L : List (Option Value)) (j n : Nat) (w : Value), (st2 i v j L)[n]? = some (some w) → (j + n = i ∧ w = v) ∨ (j + n ≠ i ∧ j + n ≠ i + 1 ∧ L[n]? = some (some w) ∧ (j + n + 1 = i → w.category = 1))
  | [], _, _, _, h => by simp [st2] at h
  | o :: L, j, 0, w, h => by
    simp only [st2, List.getElem?_cons_zero, Option.some.injEq] at h
    by_cases h1 : j = i
    · rw [if_pos h1] at h
      exact Or.inl ⟨h1, (Option.some.inj h).symm⟩
    · rw [if_neg h1] at h
      by_cases h4 : j = i + 1
      · rw [if_pos h4] at h; simp at h
      rw [if_neg h4] at h
      refine Or.inr ⟨h1, h4, ?_⟩
      by_cases h2 : j + 1 = i
      · rw [if_pos h2] at h
        cases o with
        | none => simp at h
        | some x => cases x <;> simp at h <;> subst h <;> exact ⟨rfl, fun _ => rfl⟩
      · rw [if_neg h2] at h
        exact ⟨by simp [h], fun h3 => absurd h3 h2⟩
  | o :: L, j, n + 1, w, h => by
    have h' : (st2 i v (j + 1) L)[n]? = some (some w) := by simpa [st2] using h
    have := st2_get i v L (j + 1) n w h'
    rw [show j + 1 + n = j + (n + 1) by omega] at this
    simpa using this
theorem lvO_st1 {ls' : Array Slot} {nL i : Nat} {v : Value} {L : List (Option Value)} (h : lv_has ls' nL ((i, v) :: (asl 0 L).filter (fun q => !(q.1 == i) && !(q.1 + 1 == i && q.2.category == 2)))) : lvO ls' nL (st1 i v 0 L) := by
  refine ⟨h.1, h.2.1, fun n w hw => ?_⟩
  rcases st1_get i v L 0 n w hw with ⟨h1, h2⟩ | ⟨h1, h2, h3⟩
  · rw [h2, show n = i by omega]
    exact h.2.2 _ List.mem_cons_self
  · refine h.2.2 (n, w) (List.mem_cons_of_mem _ (List.mem_filter.mpr ⟨?_, ?_⟩))
    · have := mem_asl L 0 n w h2
      rwa [Nat.zero_add] at this
    · have a1 : n ≠ i := by omega
      by_cases a2 : n + 1 = i
      · have := h3 (by omega)
        simp [a1, this]
      · simp [a1, a2]
theorem lvO_st2 {ls' : Array Slot} {nL i : Nat} {v : Value} {L : List (Option Value)} (h : lv_has ls' nL ((i, v) :: (asl 0 L).filter (fun q => !(q.1 == i) && (!(q.1 == i + 1) && !(q.1 + 1 == i && q.2.category == 2))))) : lvO ls' nL (st2 i v 0 L) := by
  refine ⟨h.1, h.2.1, fun n w hw => ?_⟩
  rcases st2_get i v L 0 n w hw with ⟨h1, h2⟩ | ⟨h1, h4, h2, h3⟩
  · rw [h2, show n = i by omega]
    exact h.2.2 _ List.mem_cons_self
  · refine h.2.2 (n, w) (List.mem_cons_of_mem _ (List.mem_filter.mpr ⟨?_, ?_⟩))
    · have := mem_asl L 0 n w h2
      rwa [Nat.zero_add] at this
    · have a1 : n ≠ i := by omega
      have a3 : n ≠ i + 1 := by omega
      by_cases a2 : n + 1 = i
      · have := h3 (by omega)
        simp [a1, a3, this]
      · simp [a1, a2, a3]
/-- fewer locals -/
def msk : List Bool → List (Option Value) → List (Option Value)
  | b :: bs, o :: L => (if b = true then o else none) :: msk bs L
  | _, _ => []
theorem msk_get : ∀ (bs : List Bool) (L : List (Option Value)) (n : Nat) (v : Value), (msk bs L)[n]? = some (some v) → L[n]? = some (some v)
  | [], L, n, v, h => by cases L <;> simp [msk] at h
  | b :: bs, [], n, v, h => by simp [msk] at h
  | b :: bs, o :: L, 0, v, h => by
    cases b <;> simp [msk] at h
    simp [h]
  | b :: bs, o :: L, n + 1, v, h => by
    have := msk_get bs L n v (by simpa [msk] using h)
    simpa using this
/-- the judgement: all that does not change in a method's walk is X -/
abbrev Ctx : Type := Program × Launch × Env × Room × State × MethodId × Array Value × List Frame × Method × Code × (State → Prop) × Nat
def G (X : Ctx) (E : Env1) (cs : Nat × Nat) (pc : Nat) (L : List (Option Value)) (st : List Value) (M : Mem) : Prop := match X with
  | (p, l, e, R, s, m, args, below, meth, c, Q, nL) => ∀ (H : Heap) (locs : List Loc) (ls : Array Slot), Wd E M s H locs → WM E M → lvO ls nL L → W p l e R s m args below meth c H locs cs.1 cs.2 Q (F0 m pc ls st)
def Cx (X : Ctx) (l0 : Launch) (E : Env1) (own : String) (cc : ByteArray) (ret : Option FieldType) (nL0 : Nat) (rm : Room) : Prop := match X with
  | (p, l, e, R, s, m, args, below, meth, c, Q, nL) => p.tables.exec = Jvm.exec ∧ c.code = cc ∧ meth.sig.returnType = ret ∧ c.maxLocals = nL ∧ s.vm.findClass own = some m.cls ∧ (∀ w ∈ lw_g, w.before args s = true) ∧ meth.locks = false ∧ va_K (eD E) vwCl (tysE E) s ∧ eB E ≤ s.heap.size ∧ nL = nL0 ∧ R = rm ∧ l = l0 ∧ NW s
section Rows
variable {X : Ctx} {l0 : Launch} {E : Env1} {cs : Nat × Nat} {own : String} {cc : ByteArray} {ret : Option FieldType} {nL pc : Nat} {rm : Room} {L L' : List (Option Value)} {st : List Value} {M : Mem}
theorem G_msk (bs : List Bool) (k : G X E cs pc (msk bs L) st M) : G X E cs pc L st M := by
  obtain ⟨p, l, e, R, s, m, args, below, meth, c, Q, nl⟩ := X
  intro H locs ls hW hM hl
  exact k H locs ls hW hM ⟨hl.1, hl.2.1, fun i v h => hl.2.2 i v (msk_get bs L i v h)⟩

theorem G_iconst (h : Cx X l0 E own cc ret nL rm) {n : Int} {v : Int32} (hd : decode cc pc = .ok (.iconst n, 1)) (hv : Int32.ofInt n = v) {pc' : Nat} (hp : pc + 1 = pc') (k : G X E cs pc' L (.int v :: st) M) : G X E cs pc L st M := by
  subst hp
  obtain ⟨p, l, e, R, s, m, args, below, meth, c, Q, nl⟩ := X
  obtain ⟨hx, hb, hr, hml, hown, hts, hlk, hK, hB, rfl, rfl, rfl, hN⟩ := h
  intro H locs ls hW hM hl
  exact lv_iconst hx hb hd hv (k H locs ls hW hM hl)
theorem G_bipush (h : Cx X l0 E own cc ret nL rm) {n : Int} {v : Int32} (hd : decode cc pc = .ok (.bipush n, 2)) (hv : (Int8.ofInt n).toInt32 = v) {pc' : Nat} (hp : pc + 2 = pc') (k : G X E cs pc' L (.int v :: st) M) : G X E cs pc L st M := by
  subst hp
  obtain ⟨p, l, e, R, s, m, args, below, meth, c, Q, nl⟩ := X
  obtain ⟨hx, hb, hr, hml, hown, hts, hlk, hK, hB, rfl, rfl, rfl, hN⟩ := h
  intro H locs ls hW hM hl
  exact lv_bipush hx hb hd hv (k H locs ls hW hM hl)
theorem G_sipush (h : Cx X l0 E own cc ret nL rm) {n : Int} {v : Int32} (hd : decode cc pc = .ok (.sipush n, 3)) (hv : (Int16.ofInt n).toInt32 = v) {pc' : Nat} (hp : pc + 3 = pc') (k : G X E cs pc' L (.int v :: st) M) : G X E cs pc L st M := by
  subst hp
  obtain ⟨p, l, e, R, s, m, args, below, meth, c, Q, nl⟩ := X
  obtain ⟨hx, hb, hr, hml, hown, hts, hlk, hK, hB, rfl, rfl, rfl, hN⟩ := h
  intro H locs ls hW hM hl
  exact lv_sipush hx hb hd hv (k H locs ls hW hM hl)
theorem G_lconst (h : Cx X l0 E own cc ret nL rm) {n : Fin 2} {v : Int64} (hd : decode cc pc = .ok (.lconst n, 1)) (hv : Int64.ofNat (n : Nat) = v) {pc' : Nat} (hp : pc + 1 = pc') (k : G X E cs pc' L (.long v :: st) M) : G X E cs pc L st M := by
  subst hp
  obtain ⟨p, l, e, R, s, m, args, below, meth, c, Q, nl⟩ := X
  obtain ⟨hx, hb, hr, hml, hown, hts, hlk, hK, hB, rfl, rfl, rfl, hN⟩ := h
  intro H locs ls hW hM hl
  exact lv_lconst hx hb hd hv (k H locs ls hW hM hl)
theorem G_ldc (h : Cx X l0 E own cc ret nL rm) {idx : Nat} {v : Int32} (hw : Jvm.Cond.constant own idx v ∈ lw_g) (hd : decode cc pc = .ok (.ldc idx, 2)) {pc' : Nat} (hp : pc + 2 = pc') (k : G X E cs pc' L (.int v :: st) M) : G X E cs pc L st M := by
  subst hp
  obtain ⟨p, l, e, R, s, m, args, below, meth, c, Q, nl⟩ := X
  obtain ⟨hx, hb, hr, hml, hown, hts, hlk, hK, hB, rfl, rfl, rfl, hN⟩ := h
  intro H locs ls hW hM hl
  exact lv_ldc hx hb hown (hts _ hw) hd (k H locs ls hW hM hl)
theorem G_ldcw (h : Cx X l0 E own cc ret nL rm) {idx : Nat} {v : Int32} (hw : Jvm.Cond.constant own idx v ∈ lw_g) (hd : decode cc pc = .ok (.ldc_w idx, 3)) {pc' : Nat} (hp : pc + 3 = pc') (k : G X E cs pc' L (.int v :: st) M) : G X E cs pc L st M := by
  subst hp
  obtain ⟨p, l, e, R, s, m, args, below, meth, c, Q, nl⟩ := X
  obtain ⟨hx, hb, hr, hml, hown, hts, hlk, hK, hB, rfl, rfl, rfl, hN⟩ := h
  intro H locs ls hW hM hl
  exact lv_ldcw hx hb hown (hts _ hw) hd (k H locs ls hW hM hl)
theorem G_ldc2 (h : Cx X l0 E own cc ret nL rm) {idx : Nat} {v : Int64} (hw : Jvm.Cond.constantLong own idx v ∈ lw_g) (hd : decode cc pc = .ok (.ldc2_w idx, 3)) {pc' : Nat} (hp : pc + 3 = pc') (k : G X E cs pc' L (.long v :: st) M) : G X E cs pc L st M := by
  subst hp
  obtain ⟨p, l, e, R, s, m, args, below, meth, c, Q, nl⟩ := X
  obtain ⟨hx, hb, hr, hml, hown, hts, hlk, hK, hB, rfl, rfl, rfl, hN⟩ := h
  intro H locs ls hW hM hl
  exact lv_ldc2 hx hb hown (hts _ hw) hd (k H locs ls hW hM hl)
theorem G_iload_n (h : Cx X l0 E own cc ret nL rm) {f : Fin 4} {i : Nat} {x : Int32} (hd : decode cc pc = .ok (.iload_n f, 1)) (hi : (f : Nat) = i) (hl0 : L[i]? = some (some (.int x))) {pc' : Nat} (hp : pc + 1 = pc') (k : G X E cs pc' L (.int x :: st) M) : G X E cs pc L st M := by
  subst hp
  obtain ⟨p, l, e, R, s, m, args, below, meth, c, Q, nl⟩ := X
  obtain ⟨hx, hb, hr, hml, hown, hts, hlk, hK, hB, rfl, rfl, rfl, hN⟩ := h
  intro H locs ls hW hM hl
  exact lv_iload_n hx hb hd hi (hl.2.2 _ _ hl0) (k H locs ls hW hM hl)
theorem G_iload (h : Cx X l0 E own cc ret nL rm) {i : Nat} {x : Int32} (hd : decode cc pc = .ok (.iload i, 2)) (hl0 : L[i]? = some (some (.int x))) {pc' : Nat} (hp : pc + 2 = pc') (k : G X E cs pc' L (.int x :: st) M) : G X E cs pc L st M := by
  subst hp
  obtain ⟨p, l, e, R, s, m, args, below, meth, c, Q, nl⟩ := X
  obtain ⟨hx, hb, hr, hml, hown, hts, hlk, hK, hB, rfl, rfl, rfl, hN⟩ := h
  intro H locs ls hW hM hl
  exact lv_iload hx hb hd (hl.2.2 _ _ hl0) (k H locs ls hW hM hl)
theorem G_lload_n (h : Cx X l0 E own cc ret nL rm) {f : Fin 4} {i : Nat} {x : Int64} (hd : decode cc pc = .ok (.lload_n f, 1)) (hi : (f : Nat) = i) (hl0 : L[i]? = some (some (.long x))) {pc' : Nat} (hp : pc + 1 = pc') (k : G X E cs pc' L (.long x :: st) M) : G X E cs pc L st M := by
  subst hp
  obtain ⟨p, l, e, R, s, m, args, below, meth, c, Q, nl⟩ := X
  obtain ⟨hx, hb, hr, hml, hown, hts, hlk, hK, hB, rfl, rfl, rfl, hN⟩ := h
  intro H locs ls hW hM hl
  exact lv_lload_n hx hb hd hi (hl.2.2 _ _ hl0) (k H locs ls hW hM hl)
theorem G_lload (h : Cx X l0 E own cc ret nL rm) {i : Nat} {x : Int64} (hd : decode cc pc = .ok (.lload i, 2)) (hl0 : L[i]? = some (some (.long x))) {pc' : Nat} (hp : pc + 2 = pc') (k : G X E cs pc' L (.long x :: st) M) : G X E cs pc L st M := by
  subst hp
  obtain ⟨p, l, e, R, s, m, args, below, meth, c, Q, nl⟩ := X
  obtain ⟨hx, hb, hr, hml, hown, hts, hlk, hK, hB, rfl, rfl, rfl, hN⟩ := h
  intro H locs ls hW hM hl
  exact lv_lload hx hb hd (hl.2.2 _ _ hl0) (k H locs ls hW hM hl)
theorem G_aload_n (h : Cx X l0 E own cc ret nL rm) {f : Fin 4} {i : Nat} {x : Nat} (hd : decode cc pc = .ok (.aload_n f, 1)) (hi : (f : Nat) = i) (hl0 : L[i]? = some (some (.ref x))) {pc' : Nat} (hp : pc + 1 = pc') (k : G X E cs pc' L (.ref x :: st) M) : G X E cs pc L st M := by
  subst hp
  obtain ⟨p, l, e, R, s, m, args, below, meth, c, Q, nl⟩ := X
  obtain ⟨hx, hb, hr, hml, hown, hts, hlk, hK, hB, rfl, rfl, rfl, hN⟩ := h
  intro H locs ls hW hM hl
  exact lv_aload_n hx hb hd hi (hl.2.2 _ _ hl0) (k H locs ls hW hM hl)
theorem G_aload (h : Cx X l0 E own cc ret nL rm) {i : Nat} {x : Nat} (hd : decode cc pc = .ok (.aload i, 2)) (hl0 : L[i]? = some (some (.ref x))) {pc' : Nat} (hp : pc + 2 = pc') (k : G X E cs pc' L (.ref x :: st) M) : G X E cs pc L st M := by
  subst hp
  obtain ⟨p, l, e, R, s, m, args, below, meth, c, Q, nl⟩ := X
  obtain ⟨hx, hb, hr, hml, hown, hts, hlk, hK, hB, rfl, rfl, rfl, hN⟩ := h
  intro H locs ls hW hM hl
  exact lv_aload hx hb hd (hl.2.2 _ _ hl0) (k H locs ls hW hM hl)
theorem G_istore_n (h : Cx X l0 E own cc ret nL rm) {f : Fin 4} {i : Nat} {x : Int32} (hd : decode cc pc = .ok (.istore_n f, 1)) (hi : (f : Nat) = i) (hn : i < nL) (hL : st1 i (.int x) 0 L = L') {pc' : Nat} (hp : pc + 1 = pc') (k : G X E cs pc' L' st M) : G X E cs pc L (.int x :: st) M := by
  subst hp
  subst hL
  obtain ⟨p, l, e, R, s, m, args, below, meth, c, Q, nl⟩ := X
  obtain ⟨hx, hb, hr, hml, hown, hts, hlk, hK, hB, rfl, rfl, rfl, hN⟩ := h
  intro H locs ls hW hM hl
  exact lv_istore_n hx hb hd hi hl.has hn rfl (fun ls' hl' => k H locs ls' hW hM (lvO_st1 hl'))
theorem G_istore (h : Cx X l0 E own cc ret nL rm) {i : Nat} {x : Int32} (hd : decode cc pc = .ok (.istore i, 2)) (hn : i < nL) (hL : st1 i (.int x) 0 L = L') {pc' : Nat} (hp : pc + 2 = pc') (k : G X E cs pc' L' st M) : G X E cs pc L (.int x :: st) M := by
  subst hp
  subst hL
  obtain ⟨p, l, e, R, s, m, args, below, meth, c, Q, nl⟩ := X
  obtain ⟨hx, hb, hr, hml, hown, hts, hlk, hK, hB, rfl, rfl, rfl, hN⟩ := h
  intro H locs ls hW hM hl
  exact lv_istore hx hb hd hl.has hn rfl (fun ls' hl' => k H locs ls' hW hM (lvO_st1 hl'))
theorem G_astore_n (h : Cx X l0 E own cc ret nL rm) {f : Fin 4} {i : Nat} {x : Nat} (hd : decode cc pc = .ok (.astore_n f, 1)) (hi : (f : Nat) = i) (hn : i < nL) (hL : st1 i (.ref x) 0 L = L') {pc' : Nat} (hp : pc + 1 = pc') (k : G X E cs pc' L' st M) : G X E cs pc L (.ref x :: st) M := by
  subst hp
  subst hL
  obtain ⟨p, l, e, R, s, m, args, below, meth, c, Q, nl⟩ := X
  obtain ⟨hx, hb, hr, hml, hown, hts, hlk, hK, hB, rfl, rfl, rfl, hN⟩ := h
  intro H locs ls hW hM hl
  exact lv_astore_n hx hb hd hi hl.has hn rfl (fun ls' hl' => k H locs ls' hW hM (lvO_st1 hl'))
theorem G_astore (h : Cx X l0 E own cc ret nL rm) {i : Nat} {x : Nat} (hd : decode cc pc = .ok (.astore i, 2)) (hn : i < nL) (hL : st1 i (.ref x) 0 L = L') {pc' : Nat} (hp : pc + 2 = pc') (k : G X E cs pc' L' st M) : G X E cs pc L (.ref x :: st) M := by
  subst hp
  subst hL
  obtain ⟨p, l, e, R, s, m, args, below, meth, c, Q, nl⟩ := X
  obtain ⟨hx, hb, hr, hml, hown, hts, hlk, hK, hB, rfl, rfl, rfl, hN⟩ := h
  intro H locs ls hW hM hl
  exact lv_astore hx hb hd hl.has hn rfl (fun ls' hl' => k H locs ls' hW hM (lvO_st1 hl'))
theorem G_lstore_n (h : Cx X l0 E own cc ret nL rm) {f : Fin 4} {i : Nat} {x : Int64} (hd : decode cc pc = .ok (.lstore_n f, 1)) (hi : (f : Nat) = i) (hn : i + 1 < nL) (hL : st2 i (.long x) 0 L = L') {pc' : Nat} (hp : pc + 1 = pc') (k : G X E cs pc' L' st M) : G X E cs pc L (.long x :: st) M := by
  subst hp
  subst hL
  obtain ⟨p, l, e, R, s, m, args, below, meth, c, Q, nl⟩ := X
  obtain ⟨hx, hb, hr, hml, hown, hts, hlk, hK, hB, rfl, rfl, rfl, hN⟩ := h
  intro H locs ls hW hM hl
  exact lv_lstore_n hx hb hd hi hl.has hn rfl (fun ls' hl' => k H locs ls' hW hM (lvO_st2 hl'))
theorem G_lstore (h : Cx X l0 E own cc ret nL rm) {i : Nat} {x : Int64} (hd : decode cc pc = .ok (.lstore i, 2)) (hn : i + 1 < nL) (hL : st2 i (.long x) 0 L = L') {pc' : Nat} (hp : pc + 2 = pc') (k : G X E cs pc' L' st M) : G X E cs pc L (.long x :: st) M := by
  subst hp
  subst hL
  obtain ⟨p, l, e, R, s, m, args, below, meth, c, Q, nl⟩ := X
  obtain ⟨hx, hb, hr, hml, hown, hts, hlk, hK, hB, rfl, rfl, rfl, hN⟩ := h
  intro H locs ls hW hM hl
  exact lv_lstore hx hb hd hl.has hn rfl (fun ls' hl' => k H locs ls' hW hM (lvO_st2 hl'))
theorem asl_place (L : List (Option Value)) (i : Nat) (v : Value) (h : L[i]? = some (some v)) : ∃ k : Nat, (asl 0 L)[k]? = some (i, v) := by
  have := mem_asl L 0 i v h
  rw [Nat.zero_add] at this
  exact List.getElem?_of_mem this
theorem G_iinc (h : Cx X l0 E own cc ret nL rm) {i : Nat} {n : Int} {x v : Int32} (hd : decode cc pc = .ok (.iinc i n, 3)) (hl0 : L[i]? = some (some (.int x))) (hv : x + Int32.ofInt n = v) (hn : i < nL) (hL : st1 i (.int v) 0 L = L') {pc' : Nat} (hp : pc + 3 = pc') (k : G X E cs pc' L' st M) : G X E cs pc L st M := by
  subst hp
  subst hL
  obtain ⟨p, l, e, R, s, m, args, below, meth, c, Q, nl⟩ := X
  obtain ⟨hx, hb, hr, hml, hown, hts, hlk, hK, hB, rfl, rfl, rfl, hN⟩ := h
  intro H locs ls hW hM hl
  obtain ⟨kk, hk⟩ := asl_place _ _ _ hl0
  exact lv_iinc hx hb hd hl.has hk hv hn rfl (fun ls' hl' => k H locs ls' hW hM (lvO_st1 hl'))
theorem G_iadd (h : Cx X l0 E own cc ret nL rm) {x y : Int32} (hd : decode cc pc = .ok (.iadd, 1)) {pc' : Nat} (hp : pc + 1 = pc') (k : G X E cs pc' L (.int (x + y) :: st) M) : G X E cs pc L (.int y :: .int x :: st) M := by
  subst hp
  obtain ⟨p, l, e, R, s, m, args, below, meth, c, Q, nl⟩ := X
  obtain ⟨hx, hb, hr, hml, hown, hts, hlk, hK, hB, rfl, rfl, rfl, hN⟩ := h
  intro H locs ls hW hM hl
  exact lv_iadd hx hb hd (k H locs ls hW hM hl)
theorem G_isub (h : Cx X l0 E own cc ret nL rm) {x y : Int32} (hd : decode cc pc = .ok (.isub, 1)) {pc' : Nat} (hp : pc + 1 = pc') (k : G X E cs pc' L (.int (x - y) :: st) M) : G X E cs pc L (.int y :: .int x :: st) M := by
  subst hp
  obtain ⟨p, l, e, R, s, m, args, below, meth, c, Q, nl⟩ := X
  obtain ⟨hx, hb, hr, hml, hown, hts, hlk, hK, hB, rfl, rfl, rfl, hN⟩ := h
  intro H locs ls hW hM hl
  exact lv_isub hx hb hd (k H locs ls hW hM hl)
theorem G_imul (h : Cx X l0 E own cc ret nL rm) {x y : Int32} (hd : decode cc pc = .ok (.imul, 1)) {pc' : Nat} (hp : pc + 1 = pc') (k : G X E cs pc' L (.int (x * y) :: st) M) : G X E cs pc L (.int y :: .int x :: st) M := by
  subst hp
  obtain ⟨p, l, e, R, s, m, args, below, meth, c, Q, nl⟩ := X
  obtain ⟨hx, hb, hr, hml, hown, hts, hlk, hK, hB, rfl, rfl, rfl, hN⟩ := h
  intro H locs ls hW hM hl
  exact lv_imul hx hb hd (k H locs ls hW hM hl)
theorem G_iand (h : Cx X l0 E own cc ret nL rm) {x y : Int32} (hd : decode cc pc = .ok (.iand, 1)) {pc' : Nat} (hp : pc + 1 = pc') (k : G X E cs pc' L (.int (x &&& y) :: st) M) : G X E cs pc L (.int y :: .int x :: st) M := by
  subst hp
  obtain ⟨p, l, e, R, s, m, args, below, meth, c, Q, nl⟩ := X
  obtain ⟨hx, hb, hr, hml, hown, hts, hlk, hK, hB, rfl, rfl, rfl, hN⟩ := h
  intro H locs ls hW hM hl
  exact lv_iand hx hb hd (k H locs ls hW hM hl)
theorem G_ior (h : Cx X l0 E own cc ret nL rm) {x y : Int32} (hd : decode cc pc = .ok (.ior, 1)) {pc' : Nat} (hp : pc + 1 = pc') (k : G X E cs pc' L (.int (x ||| y) :: st) M) : G X E cs pc L (.int y :: .int x :: st) M := by
  subst hp
  obtain ⟨p, l, e, R, s, m, args, below, meth, c, Q, nl⟩ := X
  obtain ⟨hx, hb, hr, hml, hown, hts, hlk, hK, hB, rfl, rfl, rfl, hN⟩ := h
  intro H locs ls hW hM hl
  exact lv_ior hx hb hd (k H locs ls hW hM hl)
theorem G_ixor (h : Cx X l0 E own cc ret nL rm) {x y : Int32} (hd : decode cc pc = .ok (.ixor, 1)) {pc' : Nat} (hp : pc + 1 = pc') (k : G X E cs pc' L (.int (x ^^^ y) :: st) M) : G X E cs pc L (.int y :: .int x :: st) M := by
  subst hp
  obtain ⟨p, l, e, R, s, m, args, below, meth, c, Q, nl⟩ := X
  obtain ⟨hx, hb, hr, hml, hown, hts, hlk, hK, hB, rfl, rfl, rfl, hN⟩ := h
  intro H locs ls hW hM hl
  exact lv_ixor hx hb hd (k H locs ls hW hM hl)
theorem G_ishl (h : Cx X l0 E own cc ret nL rm) {x y : Int32} (hd : decode cc pc = .ok (.ishl, 1)) {pc' : Nat} (hp : pc + 1 = pc') (k : G X E cs pc' L (.int (x <<< (y &&& 31)) :: st) M) : G X E cs pc L (.int y :: .int x :: st) M := by
  subst hp
  obtain ⟨p, l, e, R, s, m, args, below, meth, c, Q, nl⟩ := X
  obtain ⟨hx, hb, hr, hml, hown, hts, hlk, hK, hB, rfl, rfl, rfl, hN⟩ := h
  intro H locs ls hW hM hl
  exact lv_ishl hx hb hd (k H locs ls hW hM hl)
theorem G_ishr (h : Cx X l0 E own cc ret nL rm) {x y : Int32} (hd : decode cc pc = .ok (.ishr, 1)) {pc' : Nat} (hp : pc + 1 = pc') (k : G X E cs pc' L (.int (x >>> (y &&& 31)) :: st) M) : G X E cs pc L (.int y :: .int x :: st) M := by
  subst hp
  obtain ⟨p, l, e, R, s, m, args, below, meth, c, Q, nl⟩ := X
  obtain ⟨hx, hb, hr, hml, hown, hts, hlk, hK, hB, rfl, rfl, rfl, hN⟩ := h
  intro H locs ls hW hM hl
  exact lv_ishr hx hb hd (k H locs ls hW hM hl)
theorem G_idiv (h : Cx X l0 E own cc ret nL rm) {x y : Int32} (hd : decode cc pc = .ok (.idiv, 1)) (hne : ¬ y = 0) {pc' : Nat} (hp : pc + 1 = pc') (k : G X E cs pc' L (.int (x / y) :: st) M) : G X E cs pc L (.int y :: .int x :: st) M := by
  subst hp
  obtain ⟨p, l, e, R, s, m, args, below, meth, c, Q, nl⟩ := X
  obtain ⟨hx, hb, hr, hml, hown, hts, hlk, hK, hB, rfl, rfl, rfl, hN⟩ := h
  intro H locs ls hW hM hl
  exact lv_idiv hx hb hd hne (k H locs ls hW hM hl)
theorem G_irem (h : Cx X l0 E own cc ret nL rm) {x y : Int32} (hd : decode cc pc = .ok (.irem, 1)) (hne : ¬ y = 0) {pc' : Nat} (hp : pc + 1 = pc') (k : G X E cs pc' L (.int (x - x / y * y) :: st) M) : G X E cs pc L (.int y :: .int x :: st) M := by
  subst hp
  obtain ⟨p, l, e, R, s, m, args, below, meth, c, Q, nl⟩ := X
  obtain ⟨hx, hb, hr, hml, hown, hts, hlk, hK, hB, rfl, rfl, rfl, hN⟩ := h
  intro H locs ls hW hM hl
  exact lv_irem hx hb hd hne (k H locs ls hW hM hl)
theorem G_ladd (h : Cx X l0 E own cc ret nL rm) {x y : Int64} (hd : decode cc pc = .ok (.ladd, 1)) {pc' : Nat} (hp : pc + 1 = pc') (k : G X E cs pc' L (.long (x + y) :: st) M) : G X E cs pc L (.long y :: .long x :: st) M := by
  subst hp
  obtain ⟨p, l, e, R, s, m, args, below, meth, c, Q, nl⟩ := X
  obtain ⟨hx, hb, hr, hml, hown, hts, hlk, hK, hB, rfl, rfl, rfl, hN⟩ := h
  intro H locs ls hW hM hl
  exact lv_ladd hx hb hd (k H locs ls hW hM hl)
theorem G_lmul (h : Cx X l0 E own cc ret nL rm) {x y : Int64} (hd : decode cc pc = .ok (.lmul, 1)) {pc' : Nat} (hp : pc + 1 = pc') (k : G X E cs pc' L (.long (x * y) :: st) M) : G X E cs pc L (.long y :: .long x :: st) M := by
  subst hp
  obtain ⟨p, l, e, R, s, m, args, below, meth, c, Q, nl⟩ := X
  obtain ⟨hx, hb, hr, hml, hown, hts, hlk, hK, hB, rfl, rfl, rfl, hN⟩ := h
  intro H locs ls hW hM hl
  exact lv_lmul hx hb hd (k H locs ls hW hM hl)
theorem G_land (h : Cx X l0 E own cc ret nL rm) {x y : Int64} (hd : decode cc pc = .ok (.land, 1)) {pc' : Nat} (hp : pc + 1 = pc') (k : G X E cs pc' L (.long (x &&& y) :: st) M) : G X E cs pc L (.long y :: .long x :: st) M := by
  subst hp
  obtain ⟨p, l, e, R, s, m, args, below, meth, c, Q, nl⟩ := X
  obtain ⟨hx, hb, hr, hml, hown, hts, hlk, hK, hB, rfl, rfl, rfl, hN⟩ := h
  intro H locs ls hW hM hl
  exact lv_land hx hb hd (k H locs ls hW hM hl)
theorem G_lor (h : Cx X l0 E own cc ret nL rm) {x y : Int64} (hd : decode cc pc = .ok (.lor, 1)) {pc' : Nat} (hp : pc + 1 = pc') (k : G X E cs pc' L (.long (x ||| y) :: st) M) : G X E cs pc L (.long y :: .long x :: st) M := by
  subst hp
  obtain ⟨p, l, e, R, s, m, args, below, meth, c, Q, nl⟩ := X
  obtain ⟨hx, hb, hr, hml, hown, hts, hlk, hK, hB, rfl, rfl, rfl, hN⟩ := h
  intro H locs ls hW hM hl
  exact lv_lor hx hb hd (k H locs ls hW hM hl)
theorem G_ldiv (h : Cx X l0 E own cc ret nL rm) {x y : Int64} (hd : decode cc pc = .ok (.ldiv, 1)) (hne : ¬ y = 0) {pc' : Nat} (hp : pc + 1 = pc') (k : G X E cs pc' L (.long (x / y) :: st) M) : G X E cs pc L (.long y :: .long x :: st) M := by
  subst hp
  obtain ⟨p, l, e, R, s, m, args, below, meth, c, Q, nl⟩ := X
  obtain ⟨hx, hb, hr, hml, hown, hts, hlk, hK, hB, rfl, rfl, rfl, hN⟩ := h
  intro H locs ls hW hM hl
  exact lv_ldiv hx hb hd hne (k H locs ls hW hM hl)
theorem G_lrem (h : Cx X l0 E own cc ret nL rm) {x y : Int64} (hd : decode cc pc = .ok (.lrem, 1)) (hne : ¬ y = 0) {pc' : Nat} (hp : pc + 1 = pc') (k : G X E cs pc' L (.long (x - x / y * y) :: st) M) : G X E cs pc L (.long y :: .long x :: st) M := by
  subst hp
  obtain ⟨p, l, e, R, s, m, args, below, meth, c, Q, nl⟩ := X
  obtain ⟨hx, hb, hr, hml, hown, hts, hlk, hK, hB, rfl, rfl, rfl, hN⟩ := h
  intro H locs ls hW hM hl
  exact lv_lrem hx hb hd hne (k H locs ls hW hM hl)
theorem G_lshl (h : Cx X l0 E own cc ret nL rm) {x : Int64} {y : Int32} (hd : decode cc pc = .ok (.lshl, 1)) {pc' : Nat} (hp : pc + 1 = pc') (k : G X E cs pc' L (.long (x <<< (y.toInt64 &&& 63)) :: st) M) : G X E cs pc L (.int y :: .long x :: st) M := by
  subst hp
  obtain ⟨p, l, e, R, s, m, args, below, meth, c, Q, nl⟩ := X
  obtain ⟨hx, hb, hr, hml, hown, hts, hlk, hK, hB, rfl, rfl, rfl, hN⟩ := h
  intro H locs ls hW hM hl
  exact lv_lshl hx hb hd rfl (k H locs ls hW hM hl)
theorem G_lshr (h : Cx X l0 E own cc ret nL rm) {x : Int64} {y : Int32} (hd : decode cc pc = .ok (.lshr, 1)) {pc' : Nat} (hp : pc + 1 = pc') (k : G X E cs pc' L (.long (x >>> (y.toInt64 &&& 63)) :: st) M) : G X E cs pc L (.int y :: .long x :: st) M := by
  subst hp
  obtain ⟨p, l, e, R, s, m, args, below, meth, c, Q, nl⟩ := X
  obtain ⟨hx, hb, hr, hml, hown, hts, hlk, hK, hB, rfl, rfl, rfl, hN⟩ := h
  intro H locs ls hW hM hl
  exact lv_lshr hx hb hd rfl (k H locs ls hW hM hl)
theorem G_i2l (h : Cx X l0 E own cc ret nL rm) {x : Int32} (hd : decode cc pc = .ok (.i2l, 1)) {pc' : Nat} (hp : pc + 1 = pc') (k : G X E cs pc' L (.long x.toInt64 :: st) M) : G X E cs pc L (.int x :: st) M := by
  subst hp
  obtain ⟨p, l, e, R, s, m, args, below, meth, c, Q, nl⟩ := X
  obtain ⟨hx, hb, hr, hml, hown, hts, hlk, hK, hB, rfl, rfl, rfl, hN⟩ := h
  intro H locs ls hW hM hl
  exact lv_i2l hx hb hd rfl (k H locs ls hW hM hl)
theorem G_l2i (h : Cx X l0 E own cc ret nL rm) {x : Int64} (hd : decode cc pc = .ok (.l2i, 1)) {pc' : Nat} (hp : pc + 1 = pc') (k : G X E cs pc' L (.int x.toInt32 :: st) M) : G X E cs pc L (.long x :: st) M := by
  subst hp
  obtain ⟨p, l, e, R, s, m, args, below, meth, c, Q, nl⟩ := X
  obtain ⟨hx, hb, hr, hml, hown, hts, hlk, hK, hB, rfl, rfl, rfl, hN⟩ := h
  intro H locs ls hW hM hl
  exact lv_l2i hx hb hd rfl (k H locs ls hW hM hl)
theorem G_lcmp (h : Cx X l0 E own cc ret nL rm) {x y : Int64} (hd : decode cc pc = .ok (.lcmp, 1)) {pc' : Nat} (hp : pc + 1 = pc') (k : G X E cs pc' L (.int (lg_cmp x y) :: st) M) : G X E cs pc L (.long y :: .long x :: st) M := by
  subst hp
  obtain ⟨p, l, e, R, s, m, args, below, meth, c, Q, nl⟩ := X
  obtain ⟨hx, hb, hr, hml, hown, hts, hlk, hK, hB, rfl, rfl, rfl, hN⟩ := h
  intro H locs ls hW hM hl
  exact W.lcmp hx hb hd (k H locs ls hW hM hl)
theorem G_dup (h : Cx X l0 E own cc ret nL rm) {v : Value} (hd : decode cc pc = .ok (.dup, 1)) (hc : v.category = 1) {pc' : Nat} (hp : pc + 1 = pc') (k : G X E cs pc' L (v :: v :: st) M) : G X E cs pc L (v :: st) M := by
  subst hp
  obtain ⟨p, l, e, R, s, m, args, below, meth, c, Q, nl⟩ := X
  obtain ⟨hx, hb, hr, hml, hown, hts, hlk, hK, hB, rfl, rfl, rfl, hN⟩ := h
  intro H locs ls hW hM hl
  exact lv_dup hx hb hd hc (k H locs ls hW hM hl)
theorem G_dup2 (h : Cx X l0 E own cc ret nL rm) {va vb : Value} (hd : decode cc pc = .ok (.dup2, 1)) (hca : va.category = 1) (hcb : vb.category = 1) {pc' : Nat} (hp : pc + 1 = pc') (k : G X E cs pc' L (va :: vb :: va :: vb :: st) M) : G X E cs pc L (va :: vb :: st) M := by
  subst hp
  obtain ⟨p, l, e, R, s, m, args, below, meth, c, Q, nl⟩ := X
  obtain ⟨hx, hb, hr, hml, hown, hts, hlk, hK, hB, rfl, rfl, rfl, hN⟩ := h
  intro H locs ls hW hM hl
  exact lv_dup2_11 hx hb hd hca hcb (k H locs ls hW hM hl)
theorem G_pop (h : Cx X l0 E own cc ret nL rm) {v : Value} (hd : decode cc pc = .ok (.pop, 1)) (hc : v.category = 1) {pc' : Nat} (hp : pc + 1 = pc') (k : G X E cs pc' L st M) : G X E cs pc L (v :: st) M := by
  subst hp
  obtain ⟨p, l, e, R, s, m, args, below, meth, c, Q, nl⟩ := X
  obtain ⟨hx, hb, hr, hml, hown, hts, hlk, hK, hB, rfl, rfl, rfl, hN⟩ := h
  intro H locs ls hW hM hl
  exact lv_pop hx hb hd hc (k H locs ls hW hM hl)
theorem G_icmp_eq (h : Cx X l0 E own cc ret nL rm) {x y : Int32} {off : Int} {tgt pc' : Nat} (hd : decode cc pc = .ok (.if_icmp .eq off, 3)) (ht : (pc : Int) + off = (tgt : Int)) (hp : pc + 3 = pc') (kt : x = y → G X E cs tgt L st M) (kf : ¬ (x = y) → G X E cs pc' L st M) : G X E cs pc L (.int y :: .int x :: st) M := by
  subst hp
  obtain ⟨p, l, e, R, s, m, args, below, meth, c, Q, nl⟩ := X
  obtain ⟨hx, hb, hr, hml, hown, hts, hlk, hK, hB, rfl, rfl, rfl, hN⟩ := h
  intro H locs ls hW hM hl
  exact lv_icmp_eq hx hb hd ht (fun q => kt q H locs ls hW hM hl) (fun q => kf q H locs ls hW hM hl)
theorem G_if_eq (h : Cx X l0 E own cc ret nL rm) {x : Int32} {off : Int} {tgt pc' : Nat} (hd : decode cc pc = .ok (.ifCond .eq off, 3)) (ht : (pc : Int) + off = (tgt : Int)) (hp : pc + 3 = pc') (kt : x = 0 → G X E cs tgt L st M) (kf : ¬ (x = 0) → G X E cs pc' L st M) : G X E cs pc L (.int x :: st) M := by
  subst hp
  obtain ⟨p, l, e, R, s, m, args, below, meth, c, Q, nl⟩ := X
  obtain ⟨hx, hb, hr, hml, hown, hts, hlk, hK, hB, rfl, rfl, rfl, hN⟩ := h
  intro H locs ls hW hM hl
  exact lv_if_eq hx hb hd ht (fun q => kt q H locs ls hW hM hl) (fun q => kf q H locs ls hW hM hl)
theorem G_icmp_ne (h : Cx X l0 E own cc ret nL rm) {x y : Int32} {off : Int} {tgt pc' : Nat} (hd : decode cc pc = .ok (.if_icmp .ne off, 3)) (ht : (pc : Int) + off = (tgt : Int)) (hp : pc + 3 = pc') (kt : ¬ x = y → G X E cs tgt L st M) (kf : x = y → G X E cs pc' L st M) : G X E cs pc L (.int y :: .int x :: st) M := by
  subst hp
  obtain ⟨p, l, e, R, s, m, args, below, meth, c, Q, nl⟩ := X
  obtain ⟨hx, hb, hr, hml, hown, hts, hlk, hK, hB, rfl, rfl, rfl, hN⟩ := h
  intro H locs ls hW hM hl
  exact lv_icmp_ne hx hb hd ht (fun q => kt q H locs ls hW hM hl) (fun q => kf q H locs ls hW hM hl)
theorem G_if_ne (h : Cx X l0 E own cc ret nL rm) {x : Int32} {off : Int} {tgt pc' : Nat} (hd : decode cc pc = .ok (.ifCond .ne off, 3)) (ht : (pc : Int) + off = (tgt : Int)) (hp : pc + 3 = pc') (kt : ¬ x = 0 → G X E cs tgt L st M) (kf : x = 0 → G X E cs pc' L st M) : G X E cs pc L (.int x :: st) M := by
  subst hp
  obtain ⟨p, l, e, R, s, m, args, below, meth, c, Q, nl⟩ := X
  obtain ⟨hx, hb, hr, hml, hown, hts, hlk, hK, hB, rfl, rfl, rfl, hN⟩ := h
  intro H locs ls hW hM hl
  exact lv_if_ne hx hb hd ht (fun q => kt q H locs ls hW hM hl) (fun q => kf q H locs ls hW hM hl)
theorem G_icmp_lt (h : Cx X l0 E own cc ret nL rm) {x y : Int32} {off : Int} {tgt pc' : Nat} (hd : decode cc pc = .ok (.if_icmp .lt off, 3)) (ht : (pc : Int) + off = (tgt : Int)) (hp : pc + 3 = pc') (kt : x < y → G X E cs tgt L st M) (kf : ¬ (x < y) → G X E cs pc' L st M) : G X E cs pc L (.int y :: .int x :: st) M := by
  subst hp
  obtain ⟨p, l, e, R, s, m, args, below, meth, c, Q, nl⟩ := X
  obtain ⟨hx, hb, hr, hml, hown, hts, hlk, hK, hB, rfl, rfl, rfl, hN⟩ := h
  intro H locs ls hW hM hl
  exact lv_icmp_lt hx hb hd ht (fun q => kt q H locs ls hW hM hl) (fun q => kf q H locs ls hW hM hl)
theorem G_if_lt (h : Cx X l0 E own cc ret nL rm) {x : Int32} {off : Int} {tgt pc' : Nat} (hd : decode cc pc = .ok (.ifCond .lt off, 3)) (ht : (pc : Int) + off = (tgt : Int)) (hp : pc + 3 = pc') (kt : x < 0 → G X E cs tgt L st M) (kf : ¬ (x < 0) → G X E cs pc' L st M) : G X E cs pc L (.int x :: st) M := by
  subst hp
  obtain ⟨p, l, e, R, s, m, args, below, meth, c, Q, nl⟩ := X
  obtain ⟨hx, hb, hr, hml, hown, hts, hlk, hK, hB, rfl, rfl, rfl, hN⟩ := h
  intro H locs ls hW hM hl
  exact lv_if_lt hx hb hd ht (fun q => kt q H locs ls hW hM hl) (fun q => kf q H locs ls hW hM hl)
theorem G_icmp_ge (h : Cx X l0 E own cc ret nL rm) {x y : Int32} {off : Int} {tgt pc' : Nat} (hd : decode cc pc = .ok (.if_icmp .ge off, 3)) (ht : (pc : Int) + off = (tgt : Int)) (hp : pc + 3 = pc') (kt : y ≤ x → G X E cs tgt L st M) (kf : ¬ (y ≤ x) → G X E cs pc' L st M) : G X E cs pc L (.int y :: .int x :: st) M := by
  subst hp
  obtain ⟨p, l, e, R, s, m, args, below, meth, c, Q, nl⟩ := X
  obtain ⟨hx, hb, hr, hml, hown, hts, hlk, hK, hB, rfl, rfl, rfl, hN⟩ := h
  intro H locs ls hW hM hl
  exact lv_icmp_ge hx hb hd ht (fun q => kt q H locs ls hW hM hl) (fun q => kf q H locs ls hW hM hl)
theorem G_if_ge (h : Cx X l0 E own cc ret nL rm) {x : Int32} {off : Int} {tgt pc' : Nat} (hd : decode cc pc = .ok (.ifCond .ge off, 3)) (ht : (pc : Int) + off = (tgt : Int)) (hp : pc + 3 = pc') (kt : 0 ≤ x → G X E cs tgt L st M) (kf : ¬ (0 ≤ x) → G X E cs pc' L st M) : G X E cs pc L (.int x :: st) M := by
  subst hp
  obtain ⟨p, l, e, R, s, m, args, below, meth, c, Q, nl⟩ := X
  obtain ⟨hx, hb, hr, hml, hown, hts, hlk, hK, hB, rfl, rfl, rfl, hN⟩ := h
  intro H locs ls hW hM hl
  exact lv_if_ge hx hb hd ht (fun q => kt q H locs ls hW hM hl) (fun q => kf q H locs ls hW hM hl)
theorem G_icmp_gt (h : Cx X l0 E own cc ret nL rm) {x y : Int32} {off : Int} {tgt pc' : Nat} (hd : decode cc pc = .ok (.if_icmp .gt off, 3)) (ht : (pc : Int) + off = (tgt : Int)) (hp : pc + 3 = pc') (kt : y < x → G X E cs tgt L st M) (kf : ¬ (y < x) → G X E cs pc' L st M) : G X E cs pc L (.int y :: .int x :: st) M := by
  subst hp
  obtain ⟨p, l, e, R, s, m, args, below, meth, c, Q, nl⟩ := X
  obtain ⟨hx, hb, hr, hml, hown, hts, hlk, hK, hB, rfl, rfl, rfl, hN⟩ := h
  intro H locs ls hW hM hl
  exact lv_icmp_gt hx hb hd ht (fun q => kt q H locs ls hW hM hl) (fun q => kf q H locs ls hW hM hl)
theorem G_if_gt (h : Cx X l0 E own cc ret nL rm) {x : Int32} {off : Int} {tgt pc' : Nat} (hd : decode cc pc = .ok (.ifCond .gt off, 3)) (ht : (pc : Int) + off = (tgt : Int)) (hp : pc + 3 = pc') (kt : 0 < x → G X E cs tgt L st M) (kf : ¬ (0 < x) → G X E cs pc' L st M) : G X E cs pc L (.int x :: st) M := by
  subst hp
  obtain ⟨p, l, e, R, s, m, args, below, meth, c, Q, nl⟩ := X
  obtain ⟨hx, hb, hr, hml, hown, hts, hlk, hK, hB, rfl, rfl, rfl, hN⟩ := h
  intro H locs ls hW hM hl
  exact lv_if_gt hx hb hd ht (fun q => kt q H locs ls hW hM hl) (fun q => kf q H locs ls hW hM hl)
theorem G_icmp_le (h : Cx X l0 E own cc ret nL rm) {x y : Int32} {off : Int} {tgt pc' : Nat} (hd : decode cc pc = .ok (.if_icmp .le off, 3)) (ht : (pc : Int) + off = (tgt : Int)) (hp : pc + 3 = pc') (kt : x ≤ y → G X E cs tgt L st M) (kf : ¬ (x ≤ y) → G X E cs pc' L st M) : G X E cs pc L (.int y :: .int x :: st) M := by
  subst hp
  obtain ⟨p, l, e, R, s, m, args, below, meth, c, Q, nl⟩ := X
  obtain ⟨hx, hb, hr, hml, hown, hts, hlk, hK, hB, rfl, rfl, rfl, hN⟩ := h
  intro H locs ls hW hM hl
  exact lv_icmp_le hx hb hd ht (fun q => kt q H locs ls hW hM hl) (fun q => kf q H locs ls hW hM hl)
theorem G_if_le (h : Cx X l0 E own cc ret nL rm) {x : Int32} {off : Int} {tgt pc' : Nat} (hd : decode cc pc = .ok (.ifCond .le off, 3)) (ht : (pc : Int) + off = (tgt : Int)) (hp : pc + 3 = pc') (kt : x ≤ 0 → G X E cs tgt L st M) (kf : ¬ (x ≤ 0) → G X E cs pc' L st M) : G X E cs pc L (.int x :: st) M := by
  subst hp
  obtain ⟨p, l, e, R, s, m, args, below, meth, c, Q, nl⟩ := X
  obtain ⟨hx, hb, hr, hml, hown, hts, hlk, hK, hB, rfl, rfl, rfl, hN⟩ := h
  intro H locs ls hW hM hl
  exact lv_if_le hx hb hd ht (fun q => kt q H locs ls hW hM hl) (fun q => kf q H locs ls hW hM hl)
theorem G_goto (h : Cx X l0 E own cc ret nL rm) {off : Int} {tgt : Nat} (hd : decode cc pc = .ok (.goto off, 3)) (ht : (pc : Int) + off = (tgt : Int)) (k : G X E cs tgt L st M) : G X E cs pc L st M := by
  obtain ⟨p, l, e, R, s, m, args, below, meth, c, Q, nl⟩ := X
  obtain ⟨hx, hb, hr, hml, hown, hts, hlk, hK, hB, rfl, rfl, rfl, hN⟩ := h
  intro H locs ls hW hM hl
  exact lv_goto hx hb hd ht (k H locs ls hW hM hl)
end Rows
end Frame
end
section
/-! rows of the heap over G -/
section Heap
theorem flds_len (E : Env1) (M : Mem) (a : Nat) : ∀ (ts : List Nat) (k : Nat), (flds E M a k ts).length = ts.length
  | [], _ => rfl
  | t :: ts, k => by simp [flds, flds_len E M a ts (k + 1)]
theorem flds_get (E : Env1) (M : Mem) (a : Nat) : ∀ (ts : List Nat) (k j t : Nat), ts[j]? = some t → (flds E M a k ts)[j]? = some (if t = 0 then Value.int (mi M a (k + j)) else if t = 1 then Value.long (ml M a (k + j)) else va_rf (eR E a (k + j)))
  | [], _, _, _, h => by simp at h
  | u :: ts, k, 0, t, h => by
    simp at h
    subst h
    simp [flds]
  | u :: ts, k, j + 1, t, h => by
    have := flds_get E M a ts (k + 1) j t (by simpa using h)
    rw [show k + (j + 1) = k + 1 + j by omega]
    simpa [flds] using this
theorem flds_off (E : Env1) (M M' : Mem) (a : Nat) : ∀ (ts : List Nat) (k : Nat), (∀ j, k ≤ j → mi M a j = mi M' a j ∧ ml M a j = ml M' a j) → flds E M a k ts = flds E M' a k ts
  | [], _, _ => rfl
  | t :: ts, k, h => by
    simp only [flds]
    rw [(h k (Nat.le_refl k)).1, (h k (Nat.le_refl k)).2, flds_off E M M' a ts (k + 1) (fun j hj => h j (by omega))]
theorem flds_seti (E : Env1) (M : Mem) (a : Nat) (v : Int32) : ∀ (ts : List Nat) (k j : Nat), ts[j]? = some 0 → (flds E M a k ts).set j (.int v) = flds E (wi M a (k + j) v) a k ts
  | [], _, _, h => by simp at h
  | u :: ts, k, 0, h => by
    simp at h
    subst h
    simp only [flds, List.set_cons_zero, if_true, Nat.add_zero]
    rw [flds_off E M (wi M a k v) a ts (k + 1) (fun j hj => by
      rw [mi_wi, if_neg (by omega), ml_wi]
      exact ⟨rfl, rfl⟩), mi_wi, if_pos ⟨rfl, rfl⟩]
  | u :: ts, k, j + 1, h => by
    have h2 := flds_seti E M a v ts (k + 1) j (by simpa using h)
    simp only [flds, List.set_cons_succ]
    have e1 : mi (wi M a (k + 1 + j) v) a k = mi M a k := by
      rw [mi_wi]
      exact if_neg (by omega)
    rw [h2, show k + (j + 1) = k + 1 + j by omega, e1, ml_wi]
theorem flds_setl (E : Env1) (M : Mem) (a : Nat) (v : Int64) : ∀ (ts : List Nat) (k j : Nat), ts[j]? = some 1 → (flds E M a k ts).set j (.long v) = flds E (wl M a (k + j) v) a k ts
  | [], _, _, h => by simp at h
  | u :: ts, k, 0, h => by
    simp at h
    subst h
    have e1 : ml (wl M a k v) a k = v := by
      rw [ml_wl]
      exact if_pos ⟨rfl, rfl⟩
    simp only [flds, List.set_cons_zero, Nat.add_zero]
    rw [flds_off E M (wl M a k v) a ts (k + 1) (fun j hj => by
      rw [mi_wl, ml_wl, if_neg (by omega)]
      exact ⟨rfl, rfl⟩), e1]
    rfl
  | u :: ts, k, j + 1, h => by
    have h2 := flds_setl E M a v ts (k + 1) j (by simpa using h)
    simp only [flds, List.set_cons_succ]
    have e1 : ml (wl M a (k + 1 + j) v) a k = ml M a k := by
      rw [ml_wl]
      exact if_neg (by omega)
    rw [h2, show k + (j + 1) = k + 1 + j by omega, mi_wl, e1]
theorem flds_at (E : Env1) (M M' : Mem) (a : Nat) (ts : List Nat) (k : Nat) (h1 : ∀ j, mi M a j = mi M' a j) (h2 : ∀ j, ml M a j = ml M' a j) : flds E M a k ts = flds E M' a k ts := flds_off E M M' a ts k (fun j _ => ⟨h1 j, h2 j⟩)
theorem cel_obj {E : Env1} {M : Mem} {a c : Nat} (h : eK E a = c) (hc : c < 9) : cel E M a = .inr (c, flds E M a 0 (tg c)) := by
  unfold cel
  rw [h, if_neg (by omega), if_neg (by omega), if_neg (by omega), if_neg (by omega), if_neg (by omega)]
theorem cel_9 {E : Env1} {M : Mem} {a : Nat} (h : eK E a = 9) : cel E M a = .inl (eC E 9, eN E a, .inl (mi M a)) := by
  unfold cel
  rw [h]
  rfl
theorem cel_10 {E : Env1} {M : Mem} {a : Nat} (h : eK E a = 10) : cel E M a = .inl (eC E 10, eN E a, .inr (.inl (ml M a))) := by
  unfold cel
  rw [h]
  rfl
theorem cel_11 {E : Env1} {M : Mem} {a : Nat} (h : eK E a = 11) : cel E M a = .inl (eC E 11, eN E a, .inl (mi M a)) := by
  unfold cel
  rw [h]
  rfl
theorem cel_12 {E : Env1} {M : Mem} {a : Nat} (h : eK E a = 12) : cel E M a = .inl (eC E 12, eN E a, .inr (.inr (.inr (.inr (eR E a))))) := by
  unfold cel
  rw [h]
  rfl
theorem cel_13 {E : Env1} {M : Mem} {a : Nat} (h : eK E a = 13) : cel E M a = .inl (eC E 13, eN E a, .inr (.inr (.inr (.inr (fun j => (eR E a j).map (fun _ => mr M a j)))))) := by
  unfold cel
  rw [h]
  rfl
/-- a cell at which nothing differs -/
theorem cel_eq {E : Env1} {M M' : Mem} {b : Nat} (h1 : ∀ j, mi M b j = mi M' b j) (h2 : ∀ j, ml M b j = ml M' b j) (h3 : ∀ j, mr M b j = mr M' b j) : cel E M b = cel E M' b := by
  unfold cel
  rw [show mi M b = mi M' b from funext h1, show ml M b = ml M' b from funext h2, show mr M b = mr M' b from funext h3, flds_at E M M' b _ _ h1 h2]
theorem cel_wi_ne {E : Env1} {M : Mem} {a k b : Nat} {v : Int32} (h : b ≠ a) : cel E (wi M a k v) b = cel E M b :=
  cel_eq (fun j => by rw [mi_wi, if_neg (by simp [h])]) (fun j => ml_wi _ _ _ _ _ _) (fun j => mr_wi _ _ _ _ _ _)
theorem cel_wl_ne {E : Env1} {M : Mem} {a k b : Nat} {v : Int64} (h : b ≠ a) : cel E (wl M a k v) b = cel E M b :=
  cel_eq (fun j => mi_wl _ _ _ _ _ _) (fun j => by rw [ml_wl, if_neg (by simp [h])]) (fun j => mr_wl _ _ _ _ _ _)
theorem cel_wr_ne {E : Env1} {M : Mem} {a k b : Nat} {v : Nat} (h : b ≠ a) : cel E (wr M a k v) b = cel E M b :=
  cel_eq (fun j => mi_wr _ _ _ _ _ _) (fun j => ml_wr _ _ _ _ _ _) (fun j => by rw [mr_wr, if_neg (by simp [h])])
theorem cel_pli {E : Env1} {M : Mem} {a c j : Nat} {v : Int32} (h : eK E a = c) (hc : c < 9) (ht : (tg c)[j]? = some 0) : va_pl (eL E) (va_up (cel E M) a (.inr (c, (flds E M a 0 (tg c)).set j (.int v)))) = va_pl (eL E) (cel E (wi M a j v)) := by
  apply va_pl_congr
  intro b
  by_cases hb : b = a
  · subst hb
    rw [va_up_self, cel_obj h hc, flds_seti E M b v (tg c) 0 j ht, Nat.zero_add]
  · rw [va_up_ne _ _ hb, cel_wi_ne hb]
theorem cel_pll {E : Env1} {M : Mem} {a c j : Nat} {v : Int64} (h : eK E a = c) (hc : c < 9) (ht : (tg c)[j]? = some 1) : va_pl (eL E) (va_up (cel E M) a (.inr (c, (flds E M a 0 (tg c)).set j (.long v)))) = va_pl (eL E) (cel E (wl M a j v)) := by
  apply va_pl_congr
  intro b
  by_cases hb : b = a
  · subst hb
    rw [va_up_self, cel_obj h hc, flds_setl E M b v (tg c) 0 j ht, Nat.zero_add]
  · rw [va_up_ne _ _ hb, cel_wl_ne hb]
theorem cel_pl9 {E : Env1} {M : Mem} {a j : Nat} {v : Int32} (h : eK E a = 9) : va_pl (eL E) (va_up (cel E M) a (.inl (eC E 9, eN E a, .inl (upd (mi M a) j v)))) = va_pl (eL E) (cel E (wi M a j v)) := by
  apply va_pl_congr
  intro b
  by_cases hb : b = a
  · subst hb
    rw [va_up_self, cel_9 h, show mi (wi M b j v) b = upd (mi M b) j v from funext (fun i => by rw [mi_wi]; unfold upd; simp)]
  · rw [va_up_ne _ _ hb, cel_wi_ne hb]
theorem cel_pl11 {E : Env1} {M : Mem} {a j : Nat} {v : Int32} (h : eK E a = 11) : va_pl (eL E) (va_up (cel E M) a (.inl (eC E 11, eN E a, .inl (upd (mi M a) j v)))) = va_pl (eL E) (cel E (wi M a j v)) := by
  apply va_pl_congr
  intro b
  by_cases hb : b = a
  · subst hb
    rw [va_up_self, cel_11 h, show mi (wi M b j v) b = upd (mi M b) j v from funext (fun i => by rw [mi_wi]; unfold upd; simp)]
  · rw [va_up_ne _ _ hb, cel_wi_ne hb]
theorem cel_pl10 {E : Env1} {M : Mem} {a j : Nat} {v : Int64} (h : eK E a = 10) : va_pl (eL E) (va_up (cel E M) a (.inl (eC E 10, eN E a, .inr (.inl (vp_updL (ml M a) j v))))) = va_pl (eL E) (cel E (wl M a j v)) := by
  apply va_pl_congr
  intro b
  by_cases hb : b = a
  · subst hb
    rw [va_up_self, cel_10 h, show ml (wl M b j v) b = vp_updL (ml M b) j v from funext (fun i => by rw [ml_wl]; unfold vp_updL; simp)]
  · rw [va_up_ne _ _ hb, cel_wl_ne hb]
section Rows2
variable {X : Ctx} {l0 : Launch} {E : Env1} {cs : Nat × Nat} {own : String} {cc : ByteArray} {ret : Option FieldType} {nL pc : Nat} {rm : Room} {L L' : List (Option Value)} {st : List Value} {M : Mem}
theorem pl0 (L : List Nat) (f : Nat → va_E) : ([] : va_W) ++ va_pl L f = va_pl L f := rfl

theorem G_geti (h : Cx X l0 E own cc ret nL rm) {C : String} {T : u_T} {N ci idx k a : Nat} (hc : vwCl[ci]? = some (C, T, N)) (hin : ∀ w ∈ u_ws C T N, w ∈ lw_g) (hlink : Cond.fieldLink own idx C (T k).2.1 (T k).2.2.1 ∈ lw_g) (hsame : (T k).1 = C) (hk : k < N) (ht : (tg ci)[k]? = some 0) (hci : ci < 9) (hd : decode cc pc = .ok (.getfield idx, 3)) (ha : isK E a ci) {pc' : Nat} (hp : pc + 3 = pc') (kk : G X E cs pc' L (.int (mi M a k) :: st) M) : G X E cs pc L (.ref a :: st) M := by
  subst hp
  obtain ⟨p, l, e, R, s, m, args, below, meth, c, Q, nl⟩ := X
  obtain ⟨hx, hb, hr, hml, hown, hts, hlk, hK, hB, rfl, rfl, rfl, hN⟩ := h
  intro H locs ls hW hM hl
  obtain ⟨hP, hD, hS⟩ := hW
  obtain ⟨n, hn⟩ := va_pl_get (X := []) (f := cel E M) ha.1
  rw [pl0, cel_obj ha.2 hci] at hn
  exact va_get hx hb hts hin hown hK hP n hn hc k hk (hts _ hlink) (fun x hx => by rw [hsame] at hx; exact hx) (v := .int (mi M a k)) (by rw [flds_get E M a (tg ci) 0 k 0 ht]; simp) hd (kk H locs ls ⟨hP, hD, hS⟩ hM hl)
theorem G_getl (h : Cx X l0 E own cc ret nL rm) {C : String} {T : u_T} {N ci idx k a : Nat} (hc : vwCl[ci]? = some (C, T, N)) (hin : ∀ w ∈ u_ws C T N, w ∈ lw_g) (hlink : Cond.fieldLink own idx C (T k).2.1 (T k).2.2.1 ∈ lw_g) (hsame : (T k).1 = C) (hk : k < N) (ht : (tg ci)[k]? = some 1) (hci : ci < 9) (hd : decode cc pc = .ok (.getfield idx, 3)) (ha : isK E a ci) {pc' : Nat} (hp : pc + 3 = pc') (kk : G X E cs pc' L (.long (ml M a k) :: st) M) : G X E cs pc L (.ref a :: st) M := by
  subst hp
  obtain ⟨p, l, e, R, s, m, args, below, meth, c, Q, nl⟩ := X
  obtain ⟨hx, hb, hr, hml, hown, hts, hlk, hK, hB, rfl, rfl, rfl, hN⟩ := h
  intro H locs ls hW hM hl
  obtain ⟨hP, hD, hS⟩ := hW
  obtain ⟨n, hn⟩ := va_pl_get (X := []) (f := cel E M) ha.1
  rw [pl0, cel_obj ha.2 hci] at hn
  exact va_get hx hb hts hin hown hK hP n hn hc k hk (hts _ hlink) (fun x hx => by rw [hsame] at hx; exact hx) (v := .long (ml M a k)) (by rw [flds_get E M a (tg ci) 0 k 1 ht]; simp) hd (kk H locs ls ⟨hP, hD, hS⟩ hM hl)
theorem G_getr (h : Cx X l0 E own cc ret nL rm) {C : String} {T : u_T} {N ci idx k a : Nat} (hc : vwCl[ci]? = some (C, T, N)) (hin : ∀ w ∈ u_ws C T N, w ∈ lw_g) (hlink : Cond.fieldLink own idx C (T k).2.1 (T k).2.2.1 ∈ lw_g) (hsame : (T k).1 = C) (hk : k < N) (ht : (tg ci)[k]? = some 2) (hci : ci < 9) (hd : decode cc pc = .ok (.getfield idx, 3)) (ha : isK E a ci) (hr0 : eR E a k = some (rr E a k)) {pc' : Nat} (hp : pc + 3 = pc') (kk : G X E cs pc' L (.ref (rr E a k) :: st) M) : G X E cs pc L (.ref a :: st) M := by
  subst hp
  obtain ⟨p, l, e, R, s, m, args, below, meth, c, Q, nl⟩ := X
  obtain ⟨hx, hb, hr, hml, hown, hts, hlk, hK, hB, rfl, rfl, rfl, hN⟩ := h
  intro H locs ls hW hM hl
  obtain ⟨hP, hD, hS⟩ := hW
  obtain ⟨n, hn⟩ := va_pl_get (X := []) (f := cel E M) ha.1
  rw [pl0, cel_obj ha.2 hci] at hn
  exact va_get hx hb hts hin hown hK hP n hn hc k hk (hts _ hlink) (fun x hx => by rw [hsame] at hx; exact hx) (v := .ref (rr E a k)) (by rw [flds_get E M a (tg ci) 0 k 2 ht, Nat.zero_add, hr0]; rfl) hd (kk H locs ls ⟨hP, hD, hS⟩ hM hl)
theorem G_puti (h : Cx X l0 E own cc ret nL rm) {C : String} {T : u_T} {N ci idx k a : Nat} (hc : vwCl[ci]? = some (C, T, N)) (hin : ∀ w ∈ u_ws C T N, w ∈ lw_g) (hlink : Cond.fieldLink own idx C (T k).2.1 (T k).2.2.1 ∈ lw_g) (hsame : (T k).1 = C) (hk : k < N) (ht : (tg ci)[k]? = some 0) (hci : ci < 9) (ty0 : Nat → FieldType) (hty : ∀ k, k < N → parseFieldDescriptor (T k).2.2.1 = some (ty0 k)) (hnm : ∀ a, a < N → ∀ b, b < N → a ≠ b → (T a).2.1 ≠ (T b).2.1) (hfin : (T k).2.2.2 = false) (h0 : ty0 k = .int) (hd : decode cc pc = .ok (.putfield idx, 3)) (ha : isK E a ci) {v : Int32} {pc' : Nat} (hp : pc + 3 = pc') (kk : G X E cs pc' L st (wi M a k v)) : G X E cs pc L (.int v :: .ref a :: st) M := by
  subst hp
  obtain ⟨p, l, e, R, s, m, args, below, meth, c, Q, nl⟩ := X
  obtain ⟨hx, hb, hr, hml, hown, hts, hlk, hK, hB, rfl, rfl, rfl, hN⟩ := h
  intro H locs ls hW hM hl
  obtain ⟨hP, hD, hS⟩ := hW
  obtain ⟨n, hn⟩ := va_pl_get (X := []) (f := cel E M) ha.1
  have hn2 := hn
  rw [pl0, cel_obj ha.2 hci] at hn2
  refine va_put hx hb hts hin ty0 hty hnm hown hK hP hD hS n hn2 hc k hk (hts _ hlink) (fun x hx => by rw [hsame] at hx; exact hx) hfin (ty := .int) (v := .int v) (by rw [hty k hk, h0]) rfl rfl (by rw [flds_len]; exact (List.getElem?_eq_some_iff.mp ht).1) hd (fun H1 locs1 hP1 hD1 hS1 => ?_)
  have e1 := va_pl_set (X := []) (e := .inr (ci, (flds E M a 0 (tg ci)).set k (.int v))) hD ha.1 hn
  rw [pl0, pl0, cel_pli ha.2 hci ht] at e1
  rw [e1] at hP1 hD1
  exact kk H1 locs1 ls ⟨hP1, hD1, hS1⟩ hM hl
theorem G_putl (h : Cx X l0 E own cc ret nL rm) {C : String} {T : u_T} {N ci idx k a : Nat} (hc : vwCl[ci]? = some (C, T, N)) (hin : ∀ w ∈ u_ws C T N, w ∈ lw_g) (hlink : Cond.fieldLink own idx C (T k).2.1 (T k).2.2.1 ∈ lw_g) (hsame : (T k).1 = C) (hk : k < N) (ht : (tg ci)[k]? = some 1) (hci : ci < 9) (ty0 : Nat → FieldType) (hty : ∀ k, k < N → parseFieldDescriptor (T k).2.2.1 = some (ty0 k)) (hnm : ∀ a, a < N → ∀ b, b < N → a ≠ b → (T a).2.1 ≠ (T b).2.1) (hfin : (T k).2.2.2 = false) (h0 : ty0 k = .long) (hd : decode cc pc = .ok (.putfield idx, 3)) (ha : isK E a ci) {v : Int64} {pc' : Nat} (hp : pc + 3 = pc') (kk : G X E cs pc' L st (wl M a k v)) : G X E cs pc L (.long v :: .ref a :: st) M := by
  subst hp
  obtain ⟨p, l, e, R, s, m, args, below, meth, c, Q, nl⟩ := X
  obtain ⟨hx, hb, hr, hml, hown, hts, hlk, hK, hB, rfl, rfl, rfl, hN⟩ := h
  intro H locs ls hW hM hl
  obtain ⟨hP, hD, hS⟩ := hW
  obtain ⟨n, hn⟩ := va_pl_get (X := []) (f := cel E M) ha.1
  have hn2 := hn
  rw [pl0, cel_obj ha.2 hci] at hn2
  refine va_put hx hb hts hin ty0 hty hnm hown hK hP hD hS n hn2 hc k hk (hts _ hlink) (fun x hx => by rw [hsame] at hx; exact hx) hfin (ty := .long) (v := .long v) (by rw [hty k hk, h0]) rfl rfl (by rw [flds_len]; exact (List.getElem?_eq_some_iff.mp ht).1) hd (fun H1 locs1 hP1 hD1 hS1 => ?_)
  have e1 := va_pl_set (X := []) (e := .inr (ci, (flds E M a 0 (tg ci)).set k (.long v))) hD ha.1 hn
  rw [pl0, pl0, cel_pll ha.2 hci ht] at e1
  rw [e1] at hP1 hD1
  exact kk H1 locs1 ls ⟨hP1, hD1, hS1⟩ hM hl
theorem G_iald (h : Cx X l0 E own cc ret nL rm) {a n : Nat} {i : Int32} (hd : decode cc pc = .ok (.iaload, 1)) (ha : isA E a 9 n) (hi : vp_in i n) {jx : Nat} (hj : i.toNatClampNeg = jx) {pc' : Nat} (hp : pc + 1 = pc') (kk : G X E cs pc' L (.int (mi M a jx) :: st) M) : G X E cs pc L (.int i :: .ref a :: st) M := by
  subst hp
  subst hj
  obtain ⟨p, l, e, R, s, m, args, below, meth, c, Q, nl⟩ := X
  obtain ⟨hx, hb, hr, hml, hown, hts, hlk, hK, hB, rfl, rfl, rfl, hN⟩ := h
  intro H locs ls hW hM hl
  obtain ⟨hP, hD, hS⟩ := hW
  obtain ⟨j, hn⟩ := va_pl_get (X := []) (f := cel E M) ha.1
  rw [pl0, cel_9 ha.2.1] at hn
  exact va_iald hx hb hK hP j 0 hn rfl (by rw [ha.2.2]; exact hi) hd (kk H locs ls ⟨hP, hD, hS⟩ hM hl)
theorem G_lald (h : Cx X l0 E own cc ret nL rm) {a n : Nat} {i : Int32} (hd : decode cc pc = .ok (.laload, 1)) (ha : isA E a 10 n) (hi : vp_in i n) {jx : Nat} (hj : i.toNatClampNeg = jx) {pc' : Nat} (hp : pc + 1 = pc') (kk : G X E cs pc' L (.long (ml M a jx) :: st) M) : G X E cs pc L (.int i :: .ref a :: st) M := by
  subst hp
  subst hj
  obtain ⟨p, l, e, R, s, m, args, below, meth, c, Q, nl⟩ := X
  obtain ⟨hx, hb, hr, hml, hown, hts, hlk, hK, hB, rfl, rfl, rfl, hN⟩ := h
  intro H locs ls hW hM hl
  obtain ⟨hP, hD, hS⟩ := hW
  obtain ⟨j, hn⟩ := va_pl_get (X := []) (f := cel E M) ha.1
  rw [pl0, cel_10 ha.2.1] at hn
  exact va_lald hx hb hK hP j 1 hn rfl (by rw [ha.2.2]; exact hi) hd (kk H locs ls ⟨hP, hD, hS⟩ hM hl)
theorem G_zald (h : Cx X l0 E own cc ret nL rm) {a n : Nat} {i : Int32} (hd : decode cc pc = .ok (.baload, 1)) (ha : isA E a 11 n) (hi : vp_in i n) {jx : Nat} (hj : i.toNatClampNeg = jx) {pc' : Nat} (hp : pc + 1 = pc') (kk : G X E cs pc' L (.int (mi M a jx) :: st) M) : G X E cs pc L (.int i :: .ref a :: st) M := by
  subst hp
  subst hj
  obtain ⟨p, l, e, R, s, m, args, below, meth, c, Q, nl⟩ := X
  obtain ⟨hx, hb, hr, hml, hown, hts, hlk, hK, hB, rfl, rfl, rfl, hN⟩ := h
  intro H locs ls hW hM hl
  obtain ⟨hP, hD, hS⟩ := hW
  obtain ⟨j, hn⟩ := va_pl_get (X := []) (f := cel E M) ha.1
  rw [pl0, cel_11 ha.2.1] at hn
  exact va_zald hx hb hK hP j 2 hn rfl (by rw [ha.2.2]; exact hi) hd (kk H locs ls ⟨hP, hD, hS⟩ hM hl)
theorem G_iast (h : Cx X l0 E own cc ret nL rm) {a n : Nat} {i : Int32} {v : Int32} (hd : decode cc pc = .ok (.iastore, 1)) (ha : isA E a 9 n) (hi : vp_in i n) {jx : Nat} (hj : i.toNatClampNeg = jx) {pc' : Nat} (hp : pc + 1 = pc') (kk : G X E cs pc' L st (wi M a jx v)) : G X E cs pc L (.int v :: .int i :: .ref a :: st) M := by
  subst hp
  subst hj
  obtain ⟨p, l, e, R, s, m, args, below, meth, c, Q, nl⟩ := X
  obtain ⟨hx, hb, hr, hml, hown, hts, hlk, hK, hB, rfl, rfl, rfl, hN⟩ := h
  intro H locs ls hW hM hl
  obtain ⟨hP, hD, hS⟩ := hW
  obtain ⟨j, hn⟩ := va_pl_get (X := []) (f := cel E M) ha.1
  have hn2 := hn
  rw [pl0, cel_9 ha.2.1] at hn2
  refine va_iast hx hb hK hP hD hS j 0 hn2 rfl (by rw [ha.2.2]; exact hi) hd (fun H1 locs1 hP1 hD1 hS1 => ?_)
  have e1 := fun e => va_pl_set (X := []) (e := e) hD ha.1 hn
  simp only [pl0] at e1
  rw [e1, cel_pl9 ha.2.1] at hP1 hD1
  exact kk H1 locs1 ls ⟨hP1, hD1, hS1⟩ hM hl
theorem G_last (h : Cx X l0 E own cc ret nL rm) {a n : Nat} {i : Int32} {v : Int64} (hd : decode cc pc = .ok (.lastore, 1)) (ha : isA E a 10 n) (hi : vp_in i n) {jx : Nat} (hj : i.toNatClampNeg = jx) {pc' : Nat} (hp : pc + 1 = pc') (kk : G X E cs pc' L st (wl M a jx v)) : G X E cs pc L (.long v :: .int i :: .ref a :: st) M := by
  subst hp
  subst hj
  obtain ⟨p, l, e, R, s, m, args, below, meth, c, Q, nl⟩ := X
  obtain ⟨hx, hb, hr, hml, hown, hts, hlk, hK, hB, rfl, rfl, rfl, hN⟩ := h
  intro H locs ls hW hM hl
  obtain ⟨hP, hD, hS⟩ := hW
  obtain ⟨j, hn⟩ := va_pl_get (X := []) (f := cel E M) ha.1
  have hn2 := hn
  rw [pl0, cel_10 ha.2.1] at hn2
  refine va_last hx hb hK hP hD hS j 1 hn2 rfl (by rw [ha.2.2]; exact hi) hd (fun H1 locs1 hP1 hD1 hS1 => ?_)
  have e1 := fun e => va_pl_set (X := []) (e := e) hD ha.1 hn
  simp only [pl0] at e1
  rw [e1, cel_pl10 ha.2.1] at hP1 hD1
  exact kk H1 locs1 ls ⟨hP1, hD1, hS1⟩ hM hl
theorem G_zast (h : Cx X l0 E own cc ret nL rm) {a n : Nat} {i : Int32} {v : Int32} (hd : decode cc pc = .ok (.bastore, 1)) (ha : isA E a 11 n) (hi : vp_in i n) {jx : Nat} (hj : i.toNatClampNeg = jx) {pc' : Nat} (hp : pc + 1 = pc') (kk : G X E cs pc' L st (wi M a jx (vp_nar .boolean v))) : G X E cs pc L (.int v :: .int i :: .ref a :: st) M := by
  subst hp
  subst hj
  obtain ⟨p, l, e, R, s, m, args, below, meth, c, Q, nl⟩ := X
  obtain ⟨hx, hb, hr, hml, hown, hts, hlk, hK, hB, rfl, rfl, rfl, hN⟩ := h
  intro H locs ls hW hM hl
  obtain ⟨hP, hD, hS⟩ := hW
  obtain ⟨j, hn⟩ := va_pl_get (X := []) (f := cel E M) ha.1
  have hn2 := hn
  rw [pl0, cel_11 ha.2.1] at hn2
  refine va_zast hx hb hK hP hD hS j 2 hn2 rfl (by rw [ha.2.2]; exact hi) hd (fun H1 locs1 hP1 hD1 hS1 => ?_)
  have e1 := fun e => va_pl_set (X := []) (e := e) hD ha.1 hn
  simp only [pl0] at e1
  rw [e1, cel_pl11 ha.2.1] at hP1 hD1
  exact kk H1 locs1 ls ⟨hP1, hD1, hS1⟩ hM hl
end Rows2
end Heap
end
section
/-! references in arrays, calls, ends, and a method's contract out of its walk over G -/
section CallsG
def jmax (x y : Int32) : Int32 := if x < y then y else x
def jmin (x y : Int32) : Int32 := if y < x then y else x
section RowsA
variable {X : Ctx} {l0 : Launch} {E : Env1} {cs : Nat × Nat} {own : String} {cc : ByteArray} {ret : Option FieldType} {nL pc : Nat} {rm : Room} {L L' : List (Option Value)} {st : List Value} {M : Mem}
theorem G_aldH (h : Cx X l0 E own cc ret nL rm) {a : Nat} {i : Int32} (hE : WF E) (hd : decode cc pc = .ok (.aaload, 1)) (ha : isA E a 12 2) (hi : vp_in i 2) {jx : Nat} (hj : i.toNatClampNeg = jx) {pc' : Nat} (hp : pc + 1 = pc') (kk : isK E (rr E a jx) 0 → G X E cs pc' L (.ref (rr E a jx) :: st) M) : G X E cs pc L (.int i :: .ref a :: st) M := by
  subst hp
  subst hj
  obtain ⟨p, l, e, R, s, m, args, below, meth, c, Q, nl⟩ := X
  obtain ⟨hx, hb, hr, hml, hown, hts, hlk, hK, hB, rfl, rfl, rfl, hN⟩ := h
  intro H locs ls hW hM hl
  obtain ⟨hP, hD, hS⟩ := hW
  obtain ⟨j, hn⟩ := va_pl_get (X := []) (f := cel E M) ha.1
  rw [pl0, cel_12 ha.2.1] at hn
  have hf : fK E a i.toNatClampNeg 0 := hE.2.2.2.2.2.2.2.1 a ha _ (Nat.not_le.mp fun q => hi (Or.inr q))
  have k1 := kk hf.2 H locs ls ⟨hP, hD, hS⟩ hM hl
  refine va_aldq hx hb hK hP j 3 hn rfl (by rw [ha.2.2]; exact hi) hd ?_
  rw [hf.1]
  exact k1
theorem G_aldS (h : Cx X l0 E own cc ret nL rm) {a : Nat} {i : Int32} (hE : WF E) (hd : decode cc pc = .ok (.aaload, 1)) (ha : isA E a 13 8) (hi : vp_in i 8) {jx : Nat} (hj : i.toNatClampNeg = jx) {pc' : Nat} (hp : pc + 1 = pc') (kk : isK E (mr M a jx) 4 → G X E cs pc' L (.ref (mr M a jx) :: st) M) : G X E cs pc L (.int i :: .ref a :: st) M := by
  subst hp
  subst hj
  obtain ⟨p, l, e, R, s, m, args, below, meth, c, Q, nl⟩ := X
  obtain ⟨hx, hb, hr, hml, hown, hts, hlk, hK, hB, rfl, rfl, rfl, hN⟩ := h
  intro H locs ls hW hM hl
  obtain ⟨hP, hD, hS⟩ := hW
  obtain ⟨j, hn⟩ := va_pl_get (X := []) (f := cel E M) ha.1
  rw [pl0, cel_13 ha.2.1] at hn
  have hlt : i.toNatClampNeg < 8 := Nat.not_le.mp fun q => hi (Or.inr q)
  obtain ⟨b, hb0⟩ := hE.2.2.2.2.2.2.2.2 a ha _ hlt
  have k1 := kk (hM a ha _ hlt) H locs ls ⟨hP, hD, hS⟩ hM hl
  refine va_aldq hx hb hK hP j 4 hn rfl (by rw [ha.2.2]; exact hi) hd ?_
  rw [hb0]
  exact k1
theorem WM_wi {E : Env1} {M : Mem} {a k : Nat} {v : Int32} (h : WM E M) : WM E (wi M a k v) := h
theorem WM_wl {E : Env1} {M : Mem} {a k : Nat} {v : Int64} (h : WM E M) : WM E (wl M a k v) := h
theorem WM_wr {E : Env1} {M : Mem} {a k v : Nat} (h : WM E M) (hv : isK E v 4) : WM E (wr M a k v) := by
  intro q hq j hj
  rw [mr_wr]
  by_cases c : q = a ∧ j = k
  · rw [if_pos c]
    exact hv
  · rw [if_neg c]
    exact h q hq j hj
theorem cel_pl13 {E : Env1} {M : Mem} {a j v : Nat} (h : eK E a = 13) (hr : ∃ b, eR E a j = some b) : va_pl (eL E) (va_up (cel E M) a (.inl (eC E 13, eN E a, .inr (.inr (.inr (.inr (va_up (fun j => (eR E a j).map (fun _ => mr M a j)) j (some v)))))))) = va_pl (eL E) (cel E (wr M a j v)) := by
  apply va_pl_congr
  intro b
  by_cases hb : b = a
  · subst hb
    rw [va_up_self, cel_13 h]
    refine congrArg (fun z => (Sum.inl (eC E 13, eN E b, Sum.inr (Sum.inr (Sum.inr (Sum.inr z)))) : va_E)) (funext fun i => ?_)
    by_cases hi : i = j
    · subst hi
      obtain ⟨x, hx⟩ := hr
      rw [va_up_self, mr_wr, if_pos ⟨rfl, rfl⟩, hx]
      rfl
    · rw [va_up_ne _ _ hi, mr_wr, if_neg (fun q => hi q.2)]
  · rw [va_up_ne _ _ hb, cel_wr_ne hb]
theorem G_astS (h : Cx X l0 E own cc ret nL rm) {a v : Nat} {i : Int32} (hE : WF E) (hd : decode cc pc = .ok (.aastore, 1)) (ha : isA E a 13 8) (hv : isK E v 4) (hi : vp_in i 8) {jx : Nat} (hj : i.toNatClampNeg = jx) {pc' : Nat} (hp : pc + 1 = pc') (kk : G X E cs pc' L st (wr M a jx v)) : G X E cs pc L (.ref v :: .int i :: .ref a :: st) M := by
  subst hp
  subst hj
  obtain ⟨p, l, e, R, s, m, args, below, meth, c, Q, nl⟩ := X
  obtain ⟨hx, hb, hr, hml, hown, hts, hlk, hK, hB, rfl, rfl, rfl, hN⟩ := h
  intro H locs ls hW hM hl
  obtain ⟨hP, hD, hS⟩ := hW
  obtain ⟨j, hn⟩ := va_pl_get (X := []) (f := cel E M) ha.1
  obtain ⟨j2, hn3⟩ := va_pl_get (X := []) (f := cel E M) hv.1
  have hn2 := hn
  rw [pl0, cel_13 ha.2.1] at hn2
  rw [pl0, cel_obj hv.2 (by omega)] at hn3
  have hlt : i.toNatClampNeg < 8 := Nat.not_le.mp fun q => hi (Or.inr q)
  refine va_astq hx hb hK hP hD hS j 4 j2 4 (r := (RX5, TX5, 5)) hn2 rfl hn3 rfl (by rw [ha.2.2]; exact hi) hd (fun H1 locs1 hP1 hD1 hS1 => ?_)
  have e1 := fun e => va_pl_set (X := []) (e := e) hD ha.1 hn
  simp only [pl0] at e1
  rw [e1, cel_pl13 ha.2.1 (hE.2.2.2.2.2.2.2.2 a ha _ hlt)] at hP1 hD1
  exact kk H1 locs1 ls ⟨hP1, hD1, hS1⟩ (WM_wr hM hv) hl
end RowsA

/-! contracts -/
def wsA (y : MethodName) (cc : ByteArray) (maxL : Nat) (ret : Option FieldType) : List Cond := Cond.code y cc maxL ret :: lw_g
theorem wsA_good {y : MethodName} {cc : ByteArray} {maxL : Nat} {ret : Option FieldType} (h : Cond.code y cc maxL ret ∈ lw_g) : GoodIn lw_g (wsA y cc maxL ret) := by
  intro w hw
  have h1 : w ∈ lw_g := by
    rcases List.mem_cons.mp hw with rfl | h2
    · exact h
    · exact h2
  exact ⟨h1, good_of_word (List.mem_filter.mp h1).2⟩
def CP (E : Env1) (M : Mem) (as : List Value) : Array Value → State → Prop := va_Pc as (PreU E M)
def CQi (E : Env1) (r : Int32) (M' : Mem) : Array Value → State → Outcome → State → Prop := va_Qi (fun (x : Int32) (_ : Unit) => x = r) (fun _ t => PreU E M' t) (eA E)
def CQz (E : Env1) (r : Int32) (M' : Mem) : Array Value → State → Outcome → State → Prop := va_Qi (fun (x : Int32) (_ : Unit) => x = r ∧ (r = 0 ∨ r = 1)) (fun _ t => PreU E M' t) (eA E)
def CQl (E : Env1) (r : Int64) (M' : Mem) : Array Value → State → Outcome → State → Prop := va_Ql (fun (x : Int64) (_ : Unit) => x = r) (fun _ t => PreU E M' t) (eA E)
def CQv (E : Env1) (M' : Mem) : Array Value → State → Outcome → State → Prop := va_Qv (fun (_ : Unit) => True) (fun _ t => PreU E M' t) (eA E)
theorem PreU_calling {E : Env1} {M : Mem} {U : State} {g : JFrame} {mk : MethodId} {a : Array Value} (h : PreU E M U) : PreU E M (U.calling g mk a) := by
  obtain ⟨h1, h2, h3, h4, h5, h6⟩ := h
  exact ⟨h1, va_K.moved (u := U) (U := U.calling g mk a) (Vm.Alike.refl U.vm) h2, h3, h4, h5, fun q hq => va_Nw.same rfl (u := U) (U := U.calling g mk a) rfl (h6.1 q hq), fun q hq => va_Nw.same rfl (u := U) (U := U.calling g mk a) rfl (h6.2.1 q hq), fun q hq => va_Nw.same rfl (u := U) (U := U.calling g mk a) rfl (h6.2.2 q hq)⟩
theorem CP_blind {E : Env1} {M : Mem} {as : List Value} : FrameBlind (CP E M as) := fun _ _ _ _ q => ⟨q.1, PreU_calling q.2⟩
/-- how a method ends -/
def RetI (X : Ctx) (E : Env1) (cc : ByteArray) (r : Int32) (M' : Mem) : Prop := ∀ pc L, decode cc pc = .ok (.ireturn, 1) → G X E (0, 0) pc L [.int r] M'
def RetZ (X : Ctx) (E : Env1) (cc : ByteArray) (r : Int32) (M' : Mem) : Prop := ∀ pc L, decode cc pc = .ok (.ireturn, 1) → (r = 0 ∨ r = 1) → G X E (0, 0) pc L [.int r] M'
def RetL (X : Ctx) (E : Env1) (cc : ByteArray) (r : Int64) (M' : Mem) : Prop := ∀ pc L, decode cc pc = .ok (.lreturn, 1) → G X E (0, 0) pc L [.long r] M'
def RetV (X : Ctx) (E : Env1) (cc : ByteArray) (M' : Mem) : Prop := ∀ pc L, decode cc pc = .ok (.return_, 1) → G X E (0, 0) pc L [] M'
def a0 : List Value → List (Option Value)
  | [] => []
  | v :: vs => if v.category = 2 then some v :: none :: a0 vs else some v :: a0 vs
theorem a0_mem : ∀ (vs : List Value) (k i : Nat) (v : Value), (a0 vs)[i]? = some (some v) → (k + i, v) ∈ lv_args k vs
  | [], _, _, _, h => by simp [a0] at h
  | w :: vs, k, i, v, h => by
    unfold a0 at h
    unfold lv_args
    by_cases c : w.category = 2
    · rw [if_pos c] at h ⊢
      match i, h with
      | 0, h => simp at h; subst h; exact List.mem_cons_self
      | 1, h => simp at h
      | i + 2, h =>
        have := a0_mem vs (k + 2) i v (by simpa using h)
        rw [show k + (i + 2) = k + 2 + i by omega]
        exact List.mem_cons_of_mem _ this
    · rw [if_neg c] at h ⊢
      match i, h with
      | 0, h => simp at h; subst h; exact List.mem_cons_self
      | i + 1, h =>
        have := a0_mem vs (k + 1) i v (by simpa using h)
        rw [show k + (i + 1) = k + 1 + i by omega]
        exact List.mem_cons_of_mem _ this
def pad (n : Nat) (L : List (Option Value)) : List (Option Value) := L ++ List.replicate (n - L.length) none
theorem pad_mem {n i : Nat} {L : List (Option Value)} {v : Value} (h : (pad n L)[i]? = some (some v)) : L[i]? = some (some v) := by
  unfold pad at h
  by_cases c : i < L.length
  · rwa [List.getElem?_append_left c] at h
  · rw [List.getElem?_append_right (by omega), List.getElem?_replicate] at h
    split at h <;> simp at h
theorem lvO_entry (as : List Value) {n : Nat} {L0 : List (Option Value)} (h : (lg_sl as).length ≤ n) (h0 : pad n (a0 as) = L0) : lvO ((lg_sl as ++ List.replicate (n - (lg_sl as).length) Slot.unset).toArray) n L0 := by
  subst h0
  obtain ⟨h1, h2, h3⟩ := lv_entry as h
  refine ⟨h1, h2, fun i v hv => ?_⟩
  have := a0_mem as 0 i v (pad_mem hv)
  rw [Nat.zero_add] at this
  exact h3 _ this

theorem mtI {y : MethodName} {cc : ByteArray} {maxL : Nat} {as : List Value} {rm : Room} {E : Env1} {M M' : Mem} {r : Int32} {L0 : List (Option Value)} (l0 : Launch) (hy : plainName y.cls = true) (hlen : (lg_sl as).length ≤ maxL) (hL0 : pad maxL (a0 as) = L0)
    (body : ∀ X : Ctx, Cx X l0 E y.cls cc (some .int) maxL rm → RetI X E cc r M' → G X E (0, 0) 0 L0 [] M) : Met l0 y (wsA y cc maxL (some .int)) rm (CP E M as) (CQi E r M') 0 0 (eA E) := by
  refine Met.ofW (cc := cc) (maxL := maxL) (ret := (some .int)) hy rfl ?_
  intro p e s m args below meth c s₁ B hml hv
  obtain ⟨rfl, hP, hK, hD, hB, hM, hN⟩ := hv
  have hts := atoms_spec (ws := wsA y cc maxL (some .int)) B.pre
  have hown : s.vm.findClass y.cls = some m.cls := findClass_of_methodNamed B.named
  have hh := B.exec
  have hb := B.bytes
  have hr := B.returns
  have hlk := B.notSynchronized
  rw [lg_entry_eq]
  have hX : Cx (p, l0, e, rm, s, m, as.toArray, below, meth, c, MQ below (CQi E r M') as.toArray s 0 0 (eA E), maxL) l0 E y.cls cc (some .int) maxL rm := ⟨hh, hb, hr, hml, hown, fun w hw => hts w (List.mem_cons_of_mem _ hw), hlk, hK, hB, rfl, rfl, rfl, hN⟩
  refine body _ hX ?_ s.heap [] _ ⟨hP, hD, va_S.rf⟩ hM (lvO_entry as hlen hL0)
  intro pc L hd
  intro H locs ls hW hM2 hl
  obtain ⟨hP2, hD2, hS2⟩ := hW
  exact W.iret hh hb hr (fun t ht hW2 => ⟨⟨r, (), rfl, rfl, by rw [ht]; exact hP2, va_K.moved hW2.alike hK, hD2, by rw [ht]; exact Nat.le_trans hB hS2.1, hM2, NW_warm hW2 hN⟩, hS2.F ht⟩) hS2.2.2 hd hlk
theorem mtZ {y : MethodName} {cc : ByteArray} {maxL : Nat} {as : List Value} {rm : Room} {E : Env1} {M M' : Mem} {r : Int32} {L0 : List (Option Value)} (l0 : Launch) (hy : plainName y.cls = true) (hlen : (lg_sl as).length ≤ maxL) (hL0 : pad maxL (a0 as) = L0)
    (body : ∀ X : Ctx, Cx X l0 E y.cls cc (some .boolean) maxL rm → RetZ X E cc r M' → G X E (0, 0) 0 L0 [] M) : Met l0 y (wsA y cc maxL (some .boolean)) rm (CP E M as) (CQz E r M') 0 0 (eA E) := by
  refine Met.ofW (cc := cc) (maxL := maxL) (ret := (some .boolean)) hy rfl ?_
  intro p e s m args below meth c s₁ B hml hv
  obtain ⟨rfl, hP, hK, hD, hB, hM, hN⟩ := hv
  have hts := atoms_spec (ws := wsA y cc maxL (some .boolean)) B.pre
  have hown : s.vm.findClass y.cls = some m.cls := findClass_of_methodNamed B.named
  have hh := B.exec
  have hb := B.bytes
  have hr := B.returns
  have hlk := B.notSynchronized
  rw [lg_entry_eq]
  have hX : Cx (p, l0, e, rm, s, m, as.toArray, below, meth, c, MQ below (CQz E r M') as.toArray s 0 0 (eA E), maxL) l0 E y.cls cc (some .boolean) maxL rm := ⟨hh, hb, hr, hml, hown, fun w hw => hts w (List.mem_cons_of_mem _ hw), hlk, hK, hB, rfl, rfl, rfl, hN⟩
  refine body _ hX ?_ s.heap [] _ ⟨hP, hD, va_S.rf⟩ hM (lvO_entry as hlen hL0)
  intro pc L hd hz
  intro H locs ls hW hM2 hl
  obtain ⟨hP2, hD2, hS2⟩ := hW
  exact W.zret hh hb hr (by rcases hz with rfl | rfl <;> rfl) (fun t ht hW2 => ⟨⟨r, (), rfl, ⟨rfl, hz⟩, by rw [ht]; exact hP2, va_K.moved hW2.alike hK, hD2, by rw [ht]; exact Nat.le_trans hB hS2.1, hM2, NW_warm hW2 hN⟩, hS2.F ht⟩) hS2.2.2 hd hlk
theorem mtL {y : MethodName} {cc : ByteArray} {maxL : Nat} {as : List Value} {rm : Room} {E : Env1} {M M' : Mem} {r : Int64} {L0 : List (Option Value)} (l0 : Launch) (hy : plainName y.cls = true) (hlen : (lg_sl as).length ≤ maxL) (hL0 : pad maxL (a0 as) = L0)
    (body : ∀ X : Ctx, Cx X l0 E y.cls cc (some .long) maxL rm → RetL X E cc r M' → G X E (0, 0) 0 L0 [] M) : Met l0 y (wsA y cc maxL (some .long)) rm (CP E M as) (CQl E r M') 0 0 (eA E) := by
  refine Met.ofW (cc := cc) (maxL := maxL) (ret := (some .long)) hy rfl ?_
  intro p e s m args below meth c s₁ B hml hv
  obtain ⟨rfl, hP, hK, hD, hB, hM, hN⟩ := hv
  have hts := atoms_spec (ws := wsA y cc maxL (some .long)) B.pre
  have hown : s.vm.findClass y.cls = some m.cls := findClass_of_methodNamed B.named
  have hh := B.exec
  have hb := B.bytes
  have hr := B.returns
  have hlk := B.notSynchronized
  rw [lg_entry_eq]
  have hX : Cx (p, l0, e, rm, s, m, as.toArray, below, meth, c, MQ below (CQl E r M') as.toArray s 0 0 (eA E), maxL) l0 E y.cls cc (some .long) maxL rm := ⟨hh, hb, hr, hml, hown, fun w hw => hts w (List.mem_cons_of_mem _ hw), hlk, hK, hB, rfl, rfl, rfl, hN⟩
  refine body _ hX ?_ s.heap [] _ ⟨hP, hD, va_S.rf⟩ hM (lvO_entry as hlen hL0)
  intro pc L hd
  intro H locs ls hW hM2 hl
  obtain ⟨hP2, hD2, hS2⟩ := hW
  exact W.lret hh hb hr (fun t ht hW2 => ⟨⟨r, (), rfl, rfl, by rw [ht]; exact hP2, va_K.moved hW2.alike hK, hD2, by rw [ht]; exact Nat.le_trans hB hS2.1, hM2, NW_warm hW2 hN⟩, hS2.F ht⟩) hS2.2.2 hd hlk
theorem mtV {y : MethodName} {cc : ByteArray} {maxL : Nat} {as : List Value} {rm : Room} {E : Env1} {M M' : Mem} {L0 : List (Option Value)} (l0 : Launch) (hy : plainName y.cls = true) (hlen : (lg_sl as).length ≤ maxL) (hL0 : pad maxL (a0 as) = L0)
    (body : ∀ X : Ctx, Cx X l0 E y.cls cc none maxL rm → RetV X E cc M' → G X E (0, 0) 0 L0 [] M) : Met l0 y (wsA y cc maxL none) rm (CP E M as) (CQv E M') 0 0 (eA E) := by
  refine Met.ofW (cc := cc) (maxL := maxL) (ret := none) hy rfl ?_
  intro p e s m args below meth c s₁ B hml hv
  obtain ⟨rfl, hP, hK, hD, hB, hM, hN⟩ := hv
  have hts := atoms_spec (ws := wsA y cc maxL none) B.pre
  have hown : s.vm.findClass y.cls = some m.cls := findClass_of_methodNamed B.named
  have hh := B.exec
  have hb := B.bytes
  have hr := B.returns
  have hlk := B.notSynchronized
  rw [lg_entry_eq]
  have hX : Cx (p, l0, e, rm, s, m, as.toArray, below, meth, c, MQ below (CQv E M') as.toArray s 0 0 (eA E), maxL) l0 E y.cls cc none maxL rm := ⟨hh, hb, hr, hml, hown, fun w hw => hts w (List.mem_cons_of_mem _ hw), hlk, hK, hB, rfl, rfl, rfl, hN⟩
  refine body _ hX ?_ s.heap [] _ ⟨hP, hD, va_S.rf⟩ hM (lvO_entry as hlen hL0)
  intro pc L hd
  intro H locs ls hW hM2 hl
  obtain ⟨hP2, hD2, hS2⟩ := hW
  exact W.vret hh hb hr (fun t ht hW2 => ⟨⟨(), rfl, trivial, by rw [ht]; exact hP2, va_K.moved hW2.alike hK, hD2, by rw [ht]; exact Nat.le_trans hB hS2.1, hM2, NW_warm hW2 hN⟩, hS2.F ht⟩) hS2.2.2 hd hlk
section RowsC
variable {X : Ctx} {l0 : Launch} {E : Env1} {own : String} {cc : ByteArray} {ret : Option FieldType} {nL pc : Nat} {rm : Room} {L L' : List (Option Value)} {stk st : List Value} {M M' : Mem}
variable {y : MethodName} {cc2 : ByteArray} {maxL2 : Nat} {ret2 : Option FieldType} {rm2 : Room} {as : List Value} {idx n ci q : Nat} {C host : String} {T : u_T} {N : Nat} {Qc : Array Value → State → Outcome → State → Prop}
theorem PreU_at {E : Env1} {M : Mem} {s : State} {H : Heap} {U : State} (hK : va_K (eD E) vwCl (tysE E) s) (hP : va_P (eD E) vwCl (va_pl (eL E) (cel E M)) H) (hD : va_D (eA E) (va_pl (eL E) (cel E M))) (hB : eB E ≤ H.size) (hM : WM E M) (hN : NW s) (hU : U.heap = H) (hW : s.WarmedH U.vm) : PreU E M U := ⟨by rw [hU]; exact hP, va_K.moved hW.alike hK, hD, by rw [hU]; exact hB, hM, NW_warm hW hN⟩
def roomOk (rm2 rm : Room) (maxL2 : Nat) : Prop := rm2.cells = 0 ∧ rm2.slots = 0 ∧ rm2.frames + 1 ≤ rm.frames ∧ 8 + (maxL2 + 11) + rm2.locals ≤ rm.locals
def nameOk (y : MethodName) (n : Nat) : Prop := y.cls ≠ "java/lang/invoke/MethodHandle" ∧ y.cls ≠ "java/lang/invoke/VarHandle" ∧ (parseMethodDescriptor y.desc).map (fun d => d.parameters.length) = some n

theorem G_cVi (h : Cx X l0 E own cc ret nL rm) {r : Int32} (hM0 : Met l0 y (wsA y cc2 maxL2 ret2) rm2 (CP E M (.ref q :: as)) (CQi E r M') 0 0 (eA E)) (hcl : vwCl[ci]? = some (C, T, N)) (hci : ci < 9) (hyC : y.cls = C) (hy : nameOk y n) (hlink : Cond.methodLink own idx y ∈ lw_g) (hinst : Cond.instanceMethod y ∈ lw_g) (hsel : Cond.selects C y y ∈ lw_g) (hini : Cond.initialized C ∈ lw_g) (hcode : Cond.code y cc2 maxL2 ret2 ∈ lw_g)
    (hd : decode cc pc = .ok (.invokevirtual idx, 3)) (hq : isK E q ci) (hstk : stk = as.reverse ++ .ref q :: st) {pc' : Nat} (hp : pc + 3 = pc') (hroom : roomOk rm2 rm maxL2) (hn : as.length = n) (hcat : (st.map fun v => v.category).sum ≤ 8) (kk : G X E (0, 0) pc' L (.int r :: st) M') : G X E (0, 0) pc L stk M := by
  subst hp
  obtain ⟨p, l, e, R, s, m, args, below, meth, c, Q, nl⟩ := X
  obtain ⟨hx, hb, hr, hml, hown, hts, hlk, hK, hB, rfl, rfl, rfl, hN⟩ := h
  intro H locs ls hW hM hl
  obtain ⟨hP, hD, hS⟩ := hW
  have hBH : eB E ≤ H.size := Nat.le_trans hB hS.1
  obtain ⟨j, hj⟩ := va_pl_get (X := []) (f := cel E M) hq.1
  rw [pl0, cel_obj hq.2 hci] at hj
  have hcw := callB_of (own := own) (index := idx) n hts (wsA_good hcode) rfl hroom.1 hroom.2.1 (by rw [hyC]; exact hts _ hini) (hts _ hlink) hy hroom.2.2
  refine va_calli (va_runV (C := C) ⟨hx, hb, hml, hown, hts⟩ hM0 ⟨hcw, hts _ hinst, hts _ hsel⟩ ⟨CP_blind, va_recv hK hP hcl hj, fun U hU hW => ⟨rfl, PreU_at hK hP hD hBH hM hN hU hW⟩⟩ rfl hn hl.1 hstk (by simpa using hcat) hd ⟨Nat.zero_le _, Nat.zero_le _⟩) hS (fun _ _ z => z) (fun _ z => z) (fun r0 _ t H1 locs1 ht hvm hpost hB1 hz1 hk1 hS1 => ?_)
  obtain ⟨hP2, hK2, hD2, hB2, hM2, -⟩ := hB1
  rw [ht] at hP2
  obtain rfl := hpost
  exact kk H1 locs1 ls ⟨hP2, hD2, hS1⟩ hM2 hl
theorem G_cSi (h : Cx X l0 E own cc ret nL rm) {r : Int32} (hM0 : Met l0 y (wsA y cc2 maxL2 ret2) rm2 (CP E M as) (CQi E r M') 0 0 (eA E)) (hy : nameOk y n) (hlink : Cond.methodLink own idx y ∈ lw_g) (hstat : Cond.static y ∈ lw_g) (hini : Cond.initialized y.cls ∈ lw_g) (hcode : Cond.code y cc2 maxL2 ret2 ∈ lw_g)
    (hd : decode cc pc = .ok (.invokestatic idx, 3)) (hstk : stk = as.reverse ++ st) {pc' : Nat} (hp : pc + 3 = pc') (hroom : roomOk rm2 rm maxL2) (hn : as.length = n) (hcat : (st.map fun v => v.category).sum ≤ 8) (kk : G X E (0, 0) pc' L (.int r :: st) M') : G X E (0, 0) pc L stk M := by
  subst hp
  obtain ⟨p, l, e, R, s, m, args, below, meth, c, Q, nl⟩ := X
  obtain ⟨hx, hb, hr, hml, hown, hts, hlk, hK, hB, rfl, rfl, rfl, hN⟩ := h
  intro H locs ls hW hM hl
  obtain ⟨hP, hD, hS⟩ := hW
  have hBH : eB E ≤ H.size := Nat.le_trans hB hS.1
  have hcw := callB_of (own := own) (index := idx) n hts (wsA_good hcode) rfl hroom.1 hroom.2.1 (hts _ hini) (hts _ hlink) hy hroom.2.2
  refine va_calli (va_runS ⟨hx, hb, hml, hown, hts⟩ hM0 ⟨hcw, hts _ hstat⟩ ⟨CP_blind, fun U hU hW => ⟨rfl, PreU_at hK hP hD hBH hM hN hU hW⟩⟩ rfl hn hl.1 hstk (by simpa using hcat) hd ⟨Nat.zero_le _, Nat.zero_le _⟩) hS (fun _ _ z => z) (fun _ z => z) (fun r0 _ t H1 locs1 ht hvm hpost hB1 hz1 hk1 hS1 => ?_)
  obtain ⟨hP2, hK2, hD2, hB2, hM2, -⟩ := hB1
  rw [ht] at hP2
  obtain rfl := hpost
  exact kk H1 locs1 ls ⟨hP2, hD2, hS1⟩ hM2 hl
theorem G_cSNi (h : Cx X l0 E own cc ret nL rm) {r : Int32} (hM0 : Met l0 y (wsA y cc2 maxL2 ret2) rm2 (CP E M as) (CQi E r M') 0 0 (eA E)) (hy : nameOk y n) (hlink : (own, idx, y, host) ∈ nwM) (hstat : Cond.static y ∈ lw_g) (hini : Cond.initialized y.cls ∈ lw_g) (hcode : Cond.code y cc2 maxL2 ret2 ∈ lw_g)
    (hd : decode cc pc = .ok (.invokestatic idx, 3)) (hstk : stk = as.reverse ++ st) {pc' : Nat} (hp : pc + 3 = pc') (hroom : roomOk rm2 rm maxL2) (hn : as.length = n) (hcat : (st.map fun v => v.category).sum ≤ 8) (kk : G X E (0, 0) pc' L (.int r :: st) M') : G X E (0, 0) pc L stk M := by
  subst hp
  obtain ⟨p, l, e, R, s, m, args, below, meth, c, Q, nl⟩ := X
  obtain ⟨hx, hb, hr, hml, hown, hts, hlk, hK, hB, rfl, rfl, rfl, hN⟩ := h
  intro H locs ls hW hM hl
  obtain ⟨hP, hD, hS⟩ := hW
  have hBH : eB E ≤ H.size := Nat.le_trans hB hS.1
  have hcw := va_cnB (own := own) (index := idx) (host := host) n hts (wsA_good hcode) rfl hroom.1 hroom.2.1 (hN.1 _ hlink) (hts _ hini) hy hroom.2.2
  refine va_calli (va_runSN ⟨hx, hb, hml, hown, hts⟩ hM0 ⟨hcw, hts _ hstat, trivial⟩ ⟨CP_blind, fun U hU hW => ⟨rfl, PreU_at hK hP hD hBH hM hN hU hW⟩⟩ rfl hn hl.1 hstk (by simpa using hcat) hd ⟨Nat.zero_le _, Nat.zero_le _⟩) hS (fun _ _ z => z) (fun _ z => z) (fun r0 _ t H1 locs1 ht hvm hpost hB1 hz1 hk1 hS1 => ?_)
  obtain ⟨hP2, hK2, hD2, hB2, hM2, -⟩ := hB1
  rw [ht] at hP2
  obtain rfl := hpost
  exact kk H1 locs1 ls ⟨hP2, hD2, hS1⟩ hM2 hl
theorem G_cVz (h : Cx X l0 E own cc ret nL rm) {r : Int32} (hM0 : Met l0 y (wsA y cc2 maxL2 ret2) rm2 (CP E M (.ref q :: as)) (CQz E r M') 0 0 (eA E)) (hcl : vwCl[ci]? = some (C, T, N)) (hci : ci < 9) (hyC : y.cls = C) (hy : nameOk y n) (hlink : Cond.methodLink own idx y ∈ lw_g) (hinst : Cond.instanceMethod y ∈ lw_g) (hsel : Cond.selects C y y ∈ lw_g) (hini : Cond.initialized C ∈ lw_g) (hcode : Cond.code y cc2 maxL2 ret2 ∈ lw_g)
    (hd : decode cc pc = .ok (.invokevirtual idx, 3)) (hq : isK E q ci) (hstk : stk = as.reverse ++ .ref q :: st) {pc' : Nat} (hp : pc + 3 = pc') (hroom : roomOk rm2 rm maxL2) (hn : as.length = n) (hcat : (st.map fun v => v.category).sum ≤ 8) (kk : (r = 0 ∨ r = 1) → G X E (0, 0) pc' L (.int r :: st) M') : G X E (0, 0) pc L stk M := by
  subst hp
  obtain ⟨p, l, e, R, s, m, args, below, meth, c, Q, nl⟩ := X
  obtain ⟨hx, hb, hr, hml, hown, hts, hlk, hK, hB, rfl, rfl, rfl, hN⟩ := h
  intro H locs ls hW hM hl
  obtain ⟨hP, hD, hS⟩ := hW
  have hBH : eB E ≤ H.size := Nat.le_trans hB hS.1
  obtain ⟨j, hj⟩ := va_pl_get (X := []) (f := cel E M) hq.1
  rw [pl0, cel_obj hq.2 hci] at hj
  have hcw := callB_of (own := own) (index := idx) n hts (wsA_good hcode) rfl hroom.1 hroom.2.1 (by rw [hyC]; exact hts _ hini) (hts _ hlink) hy hroom.2.2
  refine va_calli (va_runV (C := C) ⟨hx, hb, hml, hown, hts⟩ hM0 ⟨hcw, hts _ hinst, hts _ hsel⟩ ⟨CP_blind, va_recv hK hP hcl hj, fun U hU hW => ⟨rfl, PreU_at hK hP hD hBH hM hN hU hW⟩⟩ rfl hn hl.1 hstk (by simpa using hcat) hd ⟨Nat.zero_le _, Nat.zero_le _⟩) hS (fun _ _ z => z) (fun _ z => z) (fun r0 _ t H1 locs1 ht hvm hpost hB1 hz1 hk1 hS1 => ?_)
  obtain ⟨hP2, hK2, hD2, hB2, hM2, -⟩ := hB1
  rw [ht] at hP2
  obtain ⟨rfl, hz⟩ := hpost
  exact kk hz H1 locs1 ls ⟨hP2, hD2, hS1⟩ hM2 hl
theorem G_cSz (h : Cx X l0 E own cc ret nL rm) {r : Int32} (hM0 : Met l0 y (wsA y cc2 maxL2 ret2) rm2 (CP E M as) (CQz E r M') 0 0 (eA E)) (hy : nameOk y n) (hlink : Cond.methodLink own idx y ∈ lw_g) (hstat : Cond.static y ∈ lw_g) (hini : Cond.initialized y.cls ∈ lw_g) (hcode : Cond.code y cc2 maxL2 ret2 ∈ lw_g)
    (hd : decode cc pc = .ok (.invokestatic idx, 3)) (hstk : stk = as.reverse ++ st) {pc' : Nat} (hp : pc + 3 = pc') (hroom : roomOk rm2 rm maxL2) (hn : as.length = n) (hcat : (st.map fun v => v.category).sum ≤ 8) (kk : (r = 0 ∨ r = 1) → G X E (0, 0) pc' L (.int r :: st) M') : G X E (0, 0) pc L stk M := by
  subst hp
  obtain ⟨p, l, e, R, s, m, args, below, meth, c, Q, nl⟩ := X
  obtain ⟨hx, hb, hr, hml, hown, hts, hlk, hK, hB, rfl, rfl, rfl, hN⟩ := h
  intro H locs ls hW hM hl
  obtain ⟨hP, hD, hS⟩ := hW
  have hBH : eB E ≤ H.size := Nat.le_trans hB hS.1
  have hcw := callB_of (own := own) (index := idx) n hts (wsA_good hcode) rfl hroom.1 hroom.2.1 (hts _ hini) (hts _ hlink) hy hroom.2.2
  refine va_calli (va_runS ⟨hx, hb, hml, hown, hts⟩ hM0 ⟨hcw, hts _ hstat⟩ ⟨CP_blind, fun U hU hW => ⟨rfl, PreU_at hK hP hD hBH hM hN hU hW⟩⟩ rfl hn hl.1 hstk (by simpa using hcat) hd ⟨Nat.zero_le _, Nat.zero_le _⟩) hS (fun _ _ z => z) (fun _ z => z) (fun r0 _ t H1 locs1 ht hvm hpost hB1 hz1 hk1 hS1 => ?_)
  obtain ⟨hP2, hK2, hD2, hB2, hM2, -⟩ := hB1
  rw [ht] at hP2
  obtain ⟨rfl, hz⟩ := hpost
  exact kk hz H1 locs1 ls ⟨hP2, hD2, hS1⟩ hM2 hl
theorem G_cSNz (h : Cx X l0 E own cc ret nL rm) {r : Int32} (hM0 : Met l0 y (wsA y cc2 maxL2 ret2) rm2 (CP E M as) (CQz E r M') 0 0 (eA E)) (hy : nameOk y n) (hlink : (own, idx, y, host) ∈ nwM) (hstat : Cond.static y ∈ lw_g) (hini : Cond.initialized y.cls ∈ lw_g) (hcode : Cond.code y cc2 maxL2 ret2 ∈ lw_g)
    (hd : decode cc pc = .ok (.invokestatic idx, 3)) (hstk : stk = as.reverse ++ st) {pc' : Nat} (hp : pc + 3 = pc') (hroom : roomOk rm2 rm maxL2) (hn : as.length = n) (hcat : (st.map fun v => v.category).sum ≤ 8) (kk : (r = 0 ∨ r = 1) → G X E (0, 0) pc' L (.int r :: st) M') : G X E (0, 0) pc L stk M := by
  subst hp
  obtain ⟨p, l, e, R, s, m, args, below, meth, c, Q, nl⟩ := X
  obtain ⟨hx, hb, hr, hml, hown, hts, hlk, hK, hB, rfl, rfl, rfl, hN⟩ := h
  intro H locs ls hW hM hl
  obtain ⟨hP, hD, hS⟩ := hW
  have hBH : eB E ≤ H.size := Nat.le_trans hB hS.1
  have hcw := va_cnB (own := own) (index := idx) (host := host) n hts (wsA_good hcode) rfl hroom.1 hroom.2.1 (hN.1 _ hlink) (hts _ hini) hy hroom.2.2
  refine va_calli (va_runSN ⟨hx, hb, hml, hown, hts⟩ hM0 ⟨hcw, hts _ hstat, trivial⟩ ⟨CP_blind, fun U hU hW => ⟨rfl, PreU_at hK hP hD hBH hM hN hU hW⟩⟩ rfl hn hl.1 hstk (by simpa using hcat) hd ⟨Nat.zero_le _, Nat.zero_le _⟩) hS (fun _ _ z => z) (fun _ z => z) (fun r0 _ t H1 locs1 ht hvm hpost hB1 hz1 hk1 hS1 => ?_)
  obtain ⟨hP2, hK2, hD2, hB2, hM2, -⟩ := hB1
  rw [ht] at hP2
  obtain ⟨rfl, hz⟩ := hpost
  exact kk hz H1 locs1 ls ⟨hP2, hD2, hS1⟩ hM2 hl
theorem G_cVl (h : Cx X l0 E own cc ret nL rm) {r : Int64} (hM0 : Met l0 y (wsA y cc2 maxL2 ret2) rm2 (CP E M (.ref q :: as)) (CQl E r M') 0 0 (eA E)) (hcl : vwCl[ci]? = some (C, T, N)) (hci : ci < 9) (hyC : y.cls = C) (hy : nameOk y n) (hlink : Cond.methodLink own idx y ∈ lw_g) (hinst : Cond.instanceMethod y ∈ lw_g) (hsel : Cond.selects C y y ∈ lw_g) (hini : Cond.initialized C ∈ lw_g) (hcode : Cond.code y cc2 maxL2 ret2 ∈ lw_g)
    (hd : decode cc pc = .ok (.invokevirtual idx, 3)) (hq : isK E q ci) (hstk : stk = as.reverse ++ .ref q :: st) {pc' : Nat} (hp : pc + 3 = pc') (hroom : roomOk rm2 rm maxL2) (hn : as.length = n) (hcat : (st.map fun v => v.category).sum ≤ 8) (kk : G X E (0, 0) pc' L (.long r :: st) M') : G X E (0, 0) pc L stk M := by
  subst hp
  obtain ⟨p, l, e, R, s, m, args, below, meth, c, Q, nl⟩ := X
  obtain ⟨hx, hb, hr, hml, hown, hts, hlk, hK, hB, rfl, rfl, rfl, hN⟩ := h
  intro H locs ls hW hM hl
  obtain ⟨hP, hD, hS⟩ := hW
  have hBH : eB E ≤ H.size := Nat.le_trans hB hS.1
  obtain ⟨j, hj⟩ := va_pl_get (X := []) (f := cel E M) hq.1
  rw [pl0, cel_obj hq.2 hci] at hj
  have hcw := callB_of (own := own) (index := idx) n hts (wsA_good hcode) rfl hroom.1 hroom.2.1 (by rw [hyC]; exact hts _ hini) (hts _ hlink) hy hroom.2.2
  refine va_calll (va_runV (C := C) ⟨hx, hb, hml, hown, hts⟩ hM0 ⟨hcw, hts _ hinst, hts _ hsel⟩ ⟨CP_blind, va_recv hK hP hcl hj, fun U hU hW => ⟨rfl, PreU_at hK hP hD hBH hM hN hU hW⟩⟩ rfl hn hl.1 hstk (by simpa using hcat) hd ⟨Nat.zero_le _, Nat.zero_le _⟩) hS (fun _ _ z => z) (fun _ z => z) (fun r0 _ t H1 locs1 ht hvm hpost hB1 hz1 hk1 hS1 => ?_)
  obtain ⟨hP2, hK2, hD2, hB2, hM2, -⟩ := hB1
  rw [ht] at hP2
  obtain rfl := hpost
  exact kk H1 locs1 ls ⟨hP2, hD2, hS1⟩ hM2 hl
theorem G_cSl (h : Cx X l0 E own cc ret nL rm) {r : Int64} (hM0 : Met l0 y (wsA y cc2 maxL2 ret2) rm2 (CP E M as) (CQl E r M') 0 0 (eA E)) (hy : nameOk y n) (hlink : Cond.methodLink own idx y ∈ lw_g) (hstat : Cond.static y ∈ lw_g) (hini : Cond.initialized y.cls ∈ lw_g) (hcode : Cond.code y cc2 maxL2 ret2 ∈ lw_g)
    (hd : decode cc pc = .ok (.invokestatic idx, 3)) (hstk : stk = as.reverse ++ st) {pc' : Nat} (hp : pc + 3 = pc') (hroom : roomOk rm2 rm maxL2) (hn : as.length = n) (hcat : (st.map fun v => v.category).sum ≤ 8) (kk : G X E (0, 0) pc' L (.long r :: st) M') : G X E (0, 0) pc L stk M := by
  subst hp
  obtain ⟨p, l, e, R, s, m, args, below, meth, c, Q, nl⟩ := X
  obtain ⟨hx, hb, hr, hml, hown, hts, hlk, hK, hB, rfl, rfl, rfl, hN⟩ := h
  intro H locs ls hW hM hl
  obtain ⟨hP, hD, hS⟩ := hW
  have hBH : eB E ≤ H.size := Nat.le_trans hB hS.1
  have hcw := callB_of (own := own) (index := idx) n hts (wsA_good hcode) rfl hroom.1 hroom.2.1 (hts _ hini) (hts _ hlink) hy hroom.2.2
  refine va_calll (va_runS ⟨hx, hb, hml, hown, hts⟩ hM0 ⟨hcw, hts _ hstat⟩ ⟨CP_blind, fun U hU hW => ⟨rfl, PreU_at hK hP hD hBH hM hN hU hW⟩⟩ rfl hn hl.1 hstk (by simpa using hcat) hd ⟨Nat.zero_le _, Nat.zero_le _⟩) hS (fun _ _ z => z) (fun _ z => z) (fun r0 _ t H1 locs1 ht hvm hpost hB1 hz1 hk1 hS1 => ?_)
  obtain ⟨hP2, hK2, hD2, hB2, hM2, -⟩ := hB1
  rw [ht] at hP2
  obtain rfl := hpost
  exact kk H1 locs1 ls ⟨hP2, hD2, hS1⟩ hM2 hl
theorem G_cSNl (h : Cx X l0 E own cc ret nL rm) {r : Int64} (hM0 : Met l0 y (wsA y cc2 maxL2 ret2) rm2 (CP E M as) (CQl E r M') 0 0 (eA E)) (hy : nameOk y n) (hlink : (own, idx, y, host) ∈ nwM) (hstat : Cond.static y ∈ lw_g) (hini : Cond.initialized y.cls ∈ lw_g) (hcode : Cond.code y cc2 maxL2 ret2 ∈ lw_g)
    (hd : decode cc pc = .ok (.invokestatic idx, 3)) (hstk : stk = as.reverse ++ st) {pc' : Nat} (hp : pc + 3 = pc') (hroom : roomOk rm2 rm maxL2) (hn : as.length = n) (hcat : (st.map fun v => v.category).sum ≤ 8) (kk : G X E (0, 0) pc' L (.long r :: st) M') : G X E (0, 0) pc L stk M := by
  subst hp
  obtain ⟨p, l, e, R, s, m, args, below, meth, c, Q, nl⟩ := X
  obtain ⟨hx, hb, hr, hml, hown, hts, hlk, hK, hB, rfl, rfl, rfl, hN⟩ := h
  intro H locs ls hW hM hl
  obtain ⟨hP, hD, hS⟩ := hW
  have hBH : eB E ≤ H.size := Nat.le_trans hB hS.1
  have hcw := va_cnB (own := own) (index := idx) (host := host) n hts (wsA_good hcode) rfl hroom.1 hroom.2.1 (hN.1 _ hlink) (hts _ hini) hy hroom.2.2
  refine va_calll (va_runSN ⟨hx, hb, hml, hown, hts⟩ hM0 ⟨hcw, hts _ hstat, trivial⟩ ⟨CP_blind, fun U hU hW => ⟨rfl, PreU_at hK hP hD hBH hM hN hU hW⟩⟩ rfl hn hl.1 hstk (by simpa using hcat) hd ⟨Nat.zero_le _, Nat.zero_le _⟩) hS (fun _ _ z => z) (fun _ z => z) (fun r0 _ t H1 locs1 ht hvm hpost hB1 hz1 hk1 hS1 => ?_)
  obtain ⟨hP2, hK2, hD2, hB2, hM2, -⟩ := hB1
  rw [ht] at hP2
  obtain rfl := hpost
  exact kk H1 locs1 ls ⟨hP2, hD2, hS1⟩ hM2 hl
theorem G_cVv (h : Cx X l0 E own cc ret nL rm) (hM0 : Met l0 y (wsA y cc2 maxL2 ret2) rm2 (CP E M (.ref q :: as)) (CQv E M') 0 0 (eA E)) (hcl : vwCl[ci]? = some (C, T, N)) (hci : ci < 9) (hyC : y.cls = C) (hy : nameOk y n) (hlink : Cond.methodLink own idx y ∈ lw_g) (hinst : Cond.instanceMethod y ∈ lw_g) (hsel : Cond.selects C y y ∈ lw_g) (hini : Cond.initialized C ∈ lw_g) (hcode : Cond.code y cc2 maxL2 ret2 ∈ lw_g)
    (hd : decode cc pc = .ok (.invokevirtual idx, 3)) (hq : isK E q ci) (hstk : stk = as.reverse ++ .ref q :: st) {pc' : Nat} (hp : pc + 3 = pc') (hroom : roomOk rm2 rm maxL2) (hn : as.length = n) (hcat : (st.map fun v => v.category).sum ≤ 8) (kk : G X E (0, 0) pc' L st M') : G X E (0, 0) pc L stk M := by
  subst hp
  obtain ⟨p, l, e, R, s, m, args, below, meth, c, Q, nl⟩ := X
  obtain ⟨hx, hb, hr, hml, hown, hts, hlk, hK, hB, rfl, rfl, rfl, hN⟩ := h
  intro H locs ls hW hM hl
  obtain ⟨hP, hD, hS⟩ := hW
  have hBH : eB E ≤ H.size := Nat.le_trans hB hS.1
  obtain ⟨j, hj⟩ := va_pl_get (X := []) (f := cel E M) hq.1
  rw [pl0, cel_obj hq.2 hci] at hj
  have hcw := callB_of (own := own) (index := idx) n hts (wsA_good hcode) rfl hroom.1 hroom.2.1 (by rw [hyC]; exact hts _ hini) (hts _ hlink) hy hroom.2.2
  refine va_callv (va_runV (C := C) ⟨hx, hb, hml, hown, hts⟩ hM0 ⟨hcw, hts _ hinst, hts _ hsel⟩ ⟨CP_blind, va_recv hK hP hcl hj, fun U hU hW => ⟨rfl, PreU_at hK hP hD hBH hM hN hU hW⟩⟩ rfl hn hl.1 hstk (by simpa using hcat) hd ⟨Nat.zero_le _, Nat.zero_le _⟩) hS (fun _ _ z => z) (fun _ z => z) (fun _ t H1 locs1 ht hvm hpost hB1 hz1 hk1 hS1 => ?_)
  obtain ⟨hP2, hK2, hD2, hB2, hM2, -⟩ := hB1
  rw [ht] at hP2
  exact kk H1 locs1 ls ⟨hP2, hD2, hS1⟩ hM2 hl
theorem G_cSv (h : Cx X l0 E own cc ret nL rm) (hM0 : Met l0 y (wsA y cc2 maxL2 ret2) rm2 (CP E M as) (CQv E M') 0 0 (eA E)) (hy : nameOk y n) (hlink : Cond.methodLink own idx y ∈ lw_g) (hstat : Cond.static y ∈ lw_g) (hini : Cond.initialized y.cls ∈ lw_g) (hcode : Cond.code y cc2 maxL2 ret2 ∈ lw_g)
    (hd : decode cc pc = .ok (.invokestatic idx, 3)) (hstk : stk = as.reverse ++ st) {pc' : Nat} (hp : pc + 3 = pc') (hroom : roomOk rm2 rm maxL2) (hn : as.length = n) (hcat : (st.map fun v => v.category).sum ≤ 8) (kk : G X E (0, 0) pc' L st M') : G X E (0, 0) pc L stk M := by
  subst hp
  obtain ⟨p, l, e, R, s, m, args, below, meth, c, Q, nl⟩ := X
  obtain ⟨hx, hb, hr, hml, hown, hts, hlk, hK, hB, rfl, rfl, rfl, hN⟩ := h
  intro H locs ls hW hM hl
  obtain ⟨hP, hD, hS⟩ := hW
  have hBH : eB E ≤ H.size := Nat.le_trans hB hS.1
  have hcw := callB_of (own := own) (index := idx) n hts (wsA_good hcode) rfl hroom.1 hroom.2.1 (hts _ hini) (hts _ hlink) hy hroom.2.2
  refine va_callv (va_runS ⟨hx, hb, hml, hown, hts⟩ hM0 ⟨hcw, hts _ hstat⟩ ⟨CP_blind, fun U hU hW => ⟨rfl, PreU_at hK hP hD hBH hM hN hU hW⟩⟩ rfl hn hl.1 hstk (by simpa using hcat) hd ⟨Nat.zero_le _, Nat.zero_le _⟩) hS (fun _ _ z => z) (fun _ z => z) (fun _ t H1 locs1 ht hvm hpost hB1 hz1 hk1 hS1 => ?_)
  obtain ⟨hP2, hK2, hD2, hB2, hM2, -⟩ := hB1
  rw [ht] at hP2
  exact kk H1 locs1 ls ⟨hP2, hD2, hS1⟩ hM2 hl
theorem G_cSNv (h : Cx X l0 E own cc ret nL rm) (hM0 : Met l0 y (wsA y cc2 maxL2 ret2) rm2 (CP E M as) (CQv E M') 0 0 (eA E)) (hy : nameOk y n) (hlink : (own, idx, y, host) ∈ nwM) (hstat : Cond.static y ∈ lw_g) (hini : Cond.initialized y.cls ∈ lw_g) (hcode : Cond.code y cc2 maxL2 ret2 ∈ lw_g)
    (hd : decode cc pc = .ok (.invokestatic idx, 3)) (hstk : stk = as.reverse ++ st) {pc' : Nat} (hp : pc + 3 = pc') (hroom : roomOk rm2 rm maxL2) (hn : as.length = n) (hcat : (st.map fun v => v.category).sum ≤ 8) (kk : G X E (0, 0) pc' L st M') : G X E (0, 0) pc L stk M := by
  subst hp
  obtain ⟨p, l, e, R, s, m, args, below, meth, c, Q, nl⟩ := X
  obtain ⟨hx, hb, hr, hml, hown, hts, hlk, hK, hB, rfl, rfl, rfl, hN⟩ := h
  intro H locs ls hW hM hl
  obtain ⟨hP, hD, hS⟩ := hW
  have hBH : eB E ≤ H.size := Nat.le_trans hB hS.1
  have hcw := va_cnB (own := own) (index := idx) (host := host) n hts (wsA_good hcode) rfl hroom.1 hroom.2.1 (hN.1 _ hlink) (hts _ hini) hy hroom.2.2
  refine va_callv (va_runSN ⟨hx, hb, hml, hown, hts⟩ hM0 ⟨hcw, hts _ hstat, trivial⟩ ⟨CP_blind, fun U hU hW => ⟨rfl, PreU_at hK hP hD hBH hM hN hU hW⟩⟩ rfl hn hl.1 hstk (by simpa using hcat) hd ⟨Nat.zero_le _, Nat.zero_le _⟩) hS (fun _ _ z => z) (fun _ z => z) (fun _ t H1 locs1 ht hvm hpost hB1 hz1 hk1 hS1 => ?_)
  obtain ⟨hP2, hK2, hD2, hB2, hM2, -⟩ := hB1
  rw [ht] at hP2
  exact kk H1 locs1 ls ⟨hP2, hD2, hS1⟩ hM2 hl
theorem G_cUi (h : Cx X l0 E own cc ret nL rm) {x : MethodName} {owner : String} {r : Int32} (hM0 : Met l0 y (wsA y cc2 maxL2 ret2) rm2 (CP E M (.ref q :: as)) (CQi E r M') 0 0 (eA E)) (hcl : vwCl[ci]? = some (C, T, N)) (hci : ci < 9) (hy : owner ≠ "java/lang/invoke/MethodHandle" ∧ owner ≠ "java/lang/invoke/VarHandle" ∧ (parseMethodDescriptor x.desc).map (fun d => d.parameters.length) = some n) (hdec : ∀ (args : Array Value) (s : State), (∀ w ∈ lw_g, w.before args s = true) → NW s → va_Decl s ⟨owner, x.name, x.desc⟩) (hlink : Cond.methodLink own idx x ∈ lw_g) (hsame : Cond.sameMethod x.cls owner x.name x.desc ∈ lw_g) (hinst : Cond.instanceMethod y ∈ lw_g) (hsel : ∀ (args : Array Value) (s : State), (∀ w ∈ lw_g, w.before args s = true) → NW s → (Cond.selects C x y).before args s = true) (hini : Cond.initialized y.cls ∈ lw_g) (hcode : Cond.code y cc2 maxL2 ret2 ∈ lw_g)
    (hd : decode cc pc = .ok (.invokevirtual idx, 3)) (hq : isK E q ci) (hstk : stk = as.reverse ++ .ref q :: st) {pc' : Nat} (hp : pc + 3 = pc') (hroom : roomOk rm2 rm maxL2) (hn : as.length = n) (hcat : (st.map fun v => v.category).sum ≤ 8) (kk : G X E (0, 0) pc' L (.int r :: st) M') : G X E (0, 0) pc L stk M := by
  subst hp
  obtain ⟨p, l, e, R, s, m, args, below, meth, c, Q, nl⟩ := X
  obtain ⟨hx, hb, hr, hml, hown, hts, hlk, hK, hB, rfl, rfl, rfl, hN⟩ := h
  intro H locs ls hW hM hl
  obtain ⟨hP, hD, hS⟩ := hW
  have hBH : eB E ≤ H.size := Nat.le_trans hB hS.1
  obtain ⟨j, hj⟩ := va_pl_get (X := []) (f := cel E M) hq.1
  rw [pl0, cel_obj hq.2 hci] at hj
  have hcw : va_CU R s args own C owner idx x y cc2 maxL2 ret2 (wsA y cc2 maxL2 ret2) rm2 0 0 n := by
    refine ⟨⟨hroom.1, hroom.2.1, hroom.2.2.1, hroom.2.2.2, pay_in hts (wsA_good hcode), List.mem_cons_self⟩, hts _ hcode, hts _ hini, ⟨hy.1, hy.2.1⟩, fun sig hg => ?_, hts _ hlink, hts _ hsame, hdec args s hts hN, hsel args s hts hN, hts _ hinst⟩
    have h2 := hy.2.2
    rw [hg] at h2
    exact (Option.some.inj h2).symm
  refine va_calli (va_runU (C := C) ⟨hx, hb, hml, hown, hts⟩ hM0 hcw ⟨CP_blind, va_recv hK hP hcl hj, fun U hU hW => ⟨rfl, PreU_at hK hP hD hBH hM hN hU hW⟩⟩ rfl hn hl.1 hstk (by simpa using hcat) hd ⟨Nat.zero_le _, Nat.zero_le _⟩) hS (fun _ _ z => z) (fun _ z => z) (fun r0 _ t H1 locs1 ht hvm hpost hB1 hz1 hk1 hS1 => ?_)
  obtain ⟨hP2, hK2, hD2, hB2, hM2, -⟩ := hB1
  rw [ht] at hP2
  obtain rfl := hpost
  exact kk H1 locs1 ls ⟨hP2, hD2, hS1⟩ hM2 hl
theorem G_cUz (h : Cx X l0 E own cc ret nL rm) {x : MethodName} {owner : String} {r : Int32} (hM0 : Met l0 y (wsA y cc2 maxL2 ret2) rm2 (CP E M (.ref q :: as)) (CQz E r M') 0 0 (eA E)) (hcl : vwCl[ci]? = some (C, T, N)) (hci : ci < 9) (hy : owner ≠ "java/lang/invoke/MethodHandle" ∧ owner ≠ "java/lang/invoke/VarHandle" ∧ (parseMethodDescriptor x.desc).map (fun d => d.parameters.length) = some n) (hdec : ∀ (args : Array Value) (s : State), (∀ w ∈ lw_g, w.before args s = true) → NW s → va_Decl s ⟨owner, x.name, x.desc⟩) (hlink : Cond.methodLink own idx x ∈ lw_g) (hsame : Cond.sameMethod x.cls owner x.name x.desc ∈ lw_g) (hinst : Cond.instanceMethod y ∈ lw_g) (hsel : ∀ (args : Array Value) (s : State), (∀ w ∈ lw_g, w.before args s = true) → NW s → (Cond.selects C x y).before args s = true) (hini : Cond.initialized y.cls ∈ lw_g) (hcode : Cond.code y cc2 maxL2 ret2 ∈ lw_g)
    (hd : decode cc pc = .ok (.invokevirtual idx, 3)) (hq : isK E q ci) (hstk : stk = as.reverse ++ .ref q :: st) {pc' : Nat} (hp : pc + 3 = pc') (hroom : roomOk rm2 rm maxL2) (hn : as.length = n) (hcat : (st.map fun v => v.category).sum ≤ 8) (kk : (r = 0 ∨ r = 1) → G X E (0, 0) pc' L (.int r :: st) M') : G X E (0, 0) pc L stk M := by
  subst hp
  obtain ⟨p, l, e, R, s, m, args, below, meth, c, Q, nl⟩ := X
  obtain ⟨hx, hb, hr, hml, hown, hts, hlk, hK, hB, rfl, rfl, rfl, hN⟩ := h
  intro H locs ls hW hM hl
  obtain ⟨hP, hD, hS⟩ := hW
  have hBH : eB E ≤ H.size := Nat.le_trans hB hS.1
  obtain ⟨j, hj⟩ := va_pl_get (X := []) (f := cel E M) hq.1
  rw [pl0, cel_obj hq.2 hci] at hj
  have hcw : va_CU R s args own C owner idx x y cc2 maxL2 ret2 (wsA y cc2 maxL2 ret2) rm2 0 0 n := by
    refine ⟨⟨hroom.1, hroom.2.1, hroom.2.2.1, hroom.2.2.2, pay_in hts (wsA_good hcode), List.mem_cons_self⟩, hts _ hcode, hts _ hini, ⟨hy.1, hy.2.1⟩, fun sig hg => ?_, hts _ hlink, hts _ hsame, hdec args s hts hN, hsel args s hts hN, hts _ hinst⟩
    have h2 := hy.2.2
    rw [hg] at h2
    exact (Option.some.inj h2).symm
  refine va_calli (va_runU (C := C) ⟨hx, hb, hml, hown, hts⟩ hM0 hcw ⟨CP_blind, va_recv hK hP hcl hj, fun U hU hW => ⟨rfl, PreU_at hK hP hD hBH hM hN hU hW⟩⟩ rfl hn hl.1 hstk (by simpa using hcat) hd ⟨Nat.zero_le _, Nat.zero_le _⟩) hS (fun _ _ z => z) (fun _ z => z) (fun r0 _ t H1 locs1 ht hvm hpost hB1 hz1 hk1 hS1 => ?_)
  obtain ⟨hP2, hK2, hD2, hB2, hM2, -⟩ := hB1
  rw [ht] at hP2
  obtain ⟨rfl, hz⟩ := hpost
  exact kk hz H1 locs1 ls ⟨hP2, hD2, hS1⟩ hM2 hl
theorem G_cUl (h : Cx X l0 E own cc ret nL rm) {x : MethodName} {owner : String} {r : Int64} (hM0 : Met l0 y (wsA y cc2 maxL2 ret2) rm2 (CP E M (.ref q :: as)) (CQl E r M') 0 0 (eA E)) (hcl : vwCl[ci]? = some (C, T, N)) (hci : ci < 9) (hy : owner ≠ "java/lang/invoke/MethodHandle" ∧ owner ≠ "java/lang/invoke/VarHandle" ∧ (parseMethodDescriptor x.desc).map (fun d => d.parameters.length) = some n) (hdec : ∀ (args : Array Value) (s : State), (∀ w ∈ lw_g, w.before args s = true) → NW s → va_Decl s ⟨owner, x.name, x.desc⟩) (hlink : Cond.methodLink own idx x ∈ lw_g) (hsame : Cond.sameMethod x.cls owner x.name x.desc ∈ lw_g) (hinst : Cond.instanceMethod y ∈ lw_g) (hsel : ∀ (args : Array Value) (s : State), (∀ w ∈ lw_g, w.before args s = true) → NW s → (Cond.selects C x y).before args s = true) (hini : Cond.initialized y.cls ∈ lw_g) (hcode : Cond.code y cc2 maxL2 ret2 ∈ lw_g)
    (hd : decode cc pc = .ok (.invokevirtual idx, 3)) (hq : isK E q ci) (hstk : stk = as.reverse ++ .ref q :: st) {pc' : Nat} (hp : pc + 3 = pc') (hroom : roomOk rm2 rm maxL2) (hn : as.length = n) (hcat : (st.map fun v => v.category).sum ≤ 8) (kk : G X E (0, 0) pc' L (.long r :: st) M') : G X E (0, 0) pc L stk M := by
  subst hp
  obtain ⟨p, l, e, R, s, m, args, below, meth, c, Q, nl⟩ := X
  obtain ⟨hx, hb, hr, hml, hown, hts, hlk, hK, hB, rfl, rfl, rfl, hN⟩ := h
  intro H locs ls hW hM hl
  obtain ⟨hP, hD, hS⟩ := hW
  have hBH : eB E ≤ H.size := Nat.le_trans hB hS.1
  obtain ⟨j, hj⟩ := va_pl_get (X := []) (f := cel E M) hq.1
  rw [pl0, cel_obj hq.2 hci] at hj
  have hcw : va_CU R s args own C owner idx x y cc2 maxL2 ret2 (wsA y cc2 maxL2 ret2) rm2 0 0 n := by
    refine ⟨⟨hroom.1, hroom.2.1, hroom.2.2.1, hroom.2.2.2, pay_in hts (wsA_good hcode), List.mem_cons_self⟩, hts _ hcode, hts _ hini, ⟨hy.1, hy.2.1⟩, fun sig hg => ?_, hts _ hlink, hts _ hsame, hdec args s hts hN, hsel args s hts hN, hts _ hinst⟩
    have h2 := hy.2.2
    rw [hg] at h2
    exact (Option.some.inj h2).symm
  refine va_calll (va_runU (C := C) ⟨hx, hb, hml, hown, hts⟩ hM0 hcw ⟨CP_blind, va_recv hK hP hcl hj, fun U hU hW => ⟨rfl, PreU_at hK hP hD hBH hM hN hU hW⟩⟩ rfl hn hl.1 hstk (by simpa using hcat) hd ⟨Nat.zero_le _, Nat.zero_le _⟩) hS (fun _ _ z => z) (fun _ z => z) (fun r0 _ t H1 locs1 ht hvm hpost hB1 hz1 hk1 hS1 => ?_)
  obtain ⟨hP2, hK2, hD2, hB2, hM2, -⟩ := hB1
  rw [ht] at hP2
  obtain rfl := hpost
  exact kk H1 locs1 ls ⟨hP2, hD2, hS1⟩ hM2 hl
theorem G_cUv (h : Cx X l0 E own cc ret nL rm) {x : MethodName} {owner : String} (hM0 : Met l0 y (wsA y cc2 maxL2 ret2) rm2 (CP E M (.ref q :: as)) (CQv E M') 0 0 (eA E)) (hcl : vwCl[ci]? = some (C, T, N)) (hci : ci < 9) (hy : owner ≠ "java/lang/invoke/MethodHandle" ∧ owner ≠ "java/lang/invoke/VarHandle" ∧ (parseMethodDescriptor x.desc).map (fun d => d.parameters.length) = some n) (hdec : ∀ (args : Array Value) (s : State), (∀ w ∈ lw_g, w.before args s = true) → NW s → va_Decl s ⟨owner, x.name, x.desc⟩) (hlink : Cond.methodLink own idx x ∈ lw_g) (hsame : Cond.sameMethod x.cls owner x.name x.desc ∈ lw_g) (hinst : Cond.instanceMethod y ∈ lw_g) (hsel : ∀ (args : Array Value) (s : State), (∀ w ∈ lw_g, w.before args s = true) → NW s → (Cond.selects C x y).before args s = true) (hini : Cond.initialized y.cls ∈ lw_g) (hcode : Cond.code y cc2 maxL2 ret2 ∈ lw_g)
    (hd : decode cc pc = .ok (.invokevirtual idx, 3)) (hq : isK E q ci) (hstk : stk = as.reverse ++ .ref q :: st) {pc' : Nat} (hp : pc + 3 = pc') (hroom : roomOk rm2 rm maxL2) (hn : as.length = n) (hcat : (st.map fun v => v.category).sum ≤ 8) (kk : G X E (0, 0) pc' L st M') : G X E (0, 0) pc L stk M := by
  subst hp
  obtain ⟨p, l, e, R, s, m, args, below, meth, c, Q, nl⟩ := X
  obtain ⟨hx, hb, hr, hml, hown, hts, hlk, hK, hB, rfl, rfl, rfl, hN⟩ := h
  intro H locs ls hW hM hl
  obtain ⟨hP, hD, hS⟩ := hW
  have hBH : eB E ≤ H.size := Nat.le_trans hB hS.1
  obtain ⟨j, hj⟩ := va_pl_get (X := []) (f := cel E M) hq.1
  rw [pl0, cel_obj hq.2 hci] at hj
  have hcw : va_CU R s args own C owner idx x y cc2 maxL2 ret2 (wsA y cc2 maxL2 ret2) rm2 0 0 n := by
    refine ⟨⟨hroom.1, hroom.2.1, hroom.2.2.1, hroom.2.2.2, pay_in hts (wsA_good hcode), List.mem_cons_self⟩, hts _ hcode, hts _ hini, ⟨hy.1, hy.2.1⟩, fun sig hg => ?_, hts _ hlink, hts _ hsame, hdec args s hts hN, hsel args s hts hN, hts _ hinst⟩
    have h2 := hy.2.2
    rw [hg] at h2
    exact (Option.some.inj h2).symm
  refine va_callv (va_runU (C := C) ⟨hx, hb, hml, hown, hts⟩ hM0 hcw ⟨CP_blind, va_recv hK hP hcl hj, fun U hU hW => ⟨rfl, PreU_at hK hP hD hBH hM hN hU hW⟩⟩ rfl hn hl.1 hstk (by simpa using hcat) hd ⟨Nat.zero_le _, Nat.zero_le _⟩) hS (fun _ _ z => z) (fun _ z => z) (fun _ t H1 locs1 ht hvm hpost hB1 hz1 hk1 hS1 => ?_)
  obtain ⟨hP2, hK2, hD2, hB2, hM2, -⟩ := hB1
  rw [ht] at hP2
  exact kk H1 locs1 ls ⟨hP2, hD2, hS1⟩ hM2 hl
theorem G_mmax (h : Cx X l0 E own cc ret nL rm) {x y : Int32} (hlink : Cond.methodLink own idx Lib.Math.max.name ∈ lw_g) (hstat : Cond.static Lib.Math.max.name ∈ lw_g) (hini : Cond.initialized "java/lang/Math" ∈ lw_g) (hcode : Cond.code Lib.Math.max.name Lib.Math.max.code 2 (some .int) ∈ lw_g) (hd : decode cc pc = .ok (.invokestatic idx, 3)) (hfr : 1 ≤ rm.frames) (hlo : (st.map fun v => v.category).sum + 13 ≤ rm.locals) {pc' : Nat} (hp : pc + 3 = pc') (kk : G X E (0, 0) pc' L (.int (jmax x y) :: st) M) : G X E (0, 0) pc L (.int y :: .int x :: st) M := by
  subst hp
  obtain ⟨p, l, e, R, s, m, args, below, meth, c, Q, nl⟩ := X
  obtain ⟨hx, hb, hr, hml, hown, hts, hlk, hK, hB, rfl, rfl, rfl, hN⟩ := h
  intro H locs ls hW hM hl
  obtain ⟨hP, hD, hS⟩ := hW
  exact va_mmax hx hb (hml.trans hl.1.symm) hown (hts _ hlink) (hts _ hstat) (hts _ hini) (hts _ hcode) hfr hlo (Nat.zero_le _) (Nat.zero_le _) hd (kk H locs ls ⟨hP, hD, hS⟩ hM hl)
theorem G_mmin (h : Cx X l0 E own cc ret nL rm) {x y : Int32} (hlink : Cond.methodLink own idx Lib.Math.min.name ∈ lw_g) (hstat : Cond.static Lib.Math.min.name ∈ lw_g) (hini : Cond.initialized "java/lang/Math" ∈ lw_g) (hcode : Cond.code Lib.Math.min.name Lib.Math.min.code 2 (some .int) ∈ lw_g) (hd : decode cc pc = .ok (.invokestatic idx, 3)) (hfr : 1 ≤ rm.frames) (hlo : (st.map fun v => v.category).sum + 13 ≤ rm.locals) {pc' : Nat} (hp : pc + 3 = pc') (kk : G X E (0, 0) pc' L (.int (jmin x y) :: st) M) : G X E (0, 0) pc L (.int y :: .int x :: st) M := by
  subst hp
  obtain ⟨p, l, e, R, s, m, args, below, meth, c, Q, nl⟩ := X
  obtain ⟨hx, hb, hr, hml, hown, hts, hlk, hK, hB, rfl, rfl, rfl, hN⟩ := h
  intro H locs ls hW hM hl
  obtain ⟨hP, hD, hS⟩ := hW
  exact va_mmin hx hb (hml.trans hl.1.symm) hown (hts _ hlink) (hts _ hstat) (hts _ hini) (hts _ hcode) hfr hlo (Nat.zero_le _) (Nat.zero_le _) hd (kk H locs ls ⟨hP, hD, hS⟩ hM hl)
theorem G_alen (h : Cx X l0 E own cc ret nL rm) {a nn : Nat} {v : Int32} (hd : decode cc pc = .ok (.arraylength, 1)) (ha : isA E a 9 nn) (hv : Int32.ofNat nn = v) {pc' : Nat} (hp : pc + 1 = pc') (kk : G X E (0, 0) pc' L (.int v :: st) M) : G X E (0, 0) pc L (.ref a :: st) M := by
  subst hp
  obtain ⟨p, l, e, R, s, m, args, below, meth, c, Q, nl⟩ := X
  obtain ⟨hx, hb, hr, hml, hown, hts, hlk, hK, hB, rfl, rfl, rfl, hN⟩ := h
  intro H locs ls hW hM hl
  obtain ⟨hP, hD, hS⟩ := hW
  obtain ⟨j, hn⟩ := va_pl_get (X := []) (f := cel E M) ha.1
  rw [pl0, cel_9 ha.2.1] at hn
  exact va_alen hx hb hK hP j 0 hn rfl (by rw [show eN E a = nn from ha.2.2]; exact hv) hd (kk H locs ls ⟨hP, hD, hS⟩ hM hl)
theorem G_iushr (h : Cx X l0 E own cc ret nL rm) {x y : Int32} (hd : decode cc pc = .ok (.iushr, 1)) {pc' : Nat} (hp : pc + 1 = pc') (k : G X E (0, 0) pc' L (.int ((x.toUInt32 >>> (y.toUInt32 &&& Int32.toUInt32 31)).toInt32) :: st) M) : G X E (0, 0) pc L (.int y :: .int x :: st) M := by
  subst hp
  obtain ⟨p, l, e, R, s, m, args, below, meth, c, Q, nl⟩ := X
  obtain ⟨hx, hb, hr, hml, hown, hts, hlk, hK, hB, rfl, rfl, rfl, hN⟩ := h
  intro H locs ls hW hM hl
  obtain ⟨hP, hD, hS⟩ := hW
  exact lv_iushr hx hb hd rfl (k H locs ls ⟨hP, hD, hS⟩ hM hl)
theorem sel_priv {C : String} {x y z : MethodName} {s : State} {args : Array Value} (hs : (Cond.selects C x z).before args s = true) (hz : z.cls = y.cls) (hy : y.cls ≠ "java/lang/invoke/MethodHandle" ∧ y.cls ≠ "java/lang/invoke/VarHandle")
    (hpriv : (Cond.privateMethod y).before args s = true) (hinst : (Cond.instanceMethod y).before args s = true) : (Cond.selects C y y).before args s = true := by
  obtain ⟨c2, r2, m2, q1, q2, q3, q4, kP, hkP, hkPi⟩ := Cond.selects_spec hs
  obtain ⟨mk, methM, hnamed, hmethM, -, -⟩ := Cond.instanceMethod_spec hinst
  have hfound : s.methodFound? y.cls y.name y.desc = some mk := State.methodFound?_of_named hnamed hy
  have hcls : mk.cls = m2.cls := Option.some.inj ((findClass_of_methodNamed hnamed).symm.trans (by rw [← hz]; exact findClass_of_methodNamed q3))
  have hsel : selectMethod {} s.vm c2 mk = .method mk := selectMethod_private hmethM (Cond.privateMethod_at hpriv mk methM hnamed hmethM)
  simp only [Cond.before, Cond.holds, Cond.value, q1, hfound, hnamed, hsel, hcls, hkP]
  simp; exact hkPi
end RowsC
/-! how a transcript is written, and read beside the walk -/
def gd {α : Type} (j : Int32) (n : Nat) (x : Option α) : Option α := if j.toInt < 0 ∨ (n : Int) ≤ j.toInt then none else x
theorem gd_some {α : Type} {j : Int32} {n : Nat} {x : Option α} {r : α} (h : gd j n x = some r) : vp_in j n ∧ x = some r := by
  unfold gd at h
  by_cases c : j.toInt < 0 ∨ (n : Int) ≤ j.toInt
  · rw [if_pos c] at h; cases h
  · rw [if_neg c] at h
    exact ⟨vp_in_iff.mpr ⟨by omega, by omega⟩, h⟩
theorem gd_pos {α : Type} {j : Int32} {n : Nat} {x : Option α} (h : vp_in j n) : gd j n x = x := by
  unfold gd
  have := vp_in_iff.mp h
  exact if_neg (by omega)
def gz {α : Type} (d : Int32) (x : Option α) : Option α := if d = 0 then none else x
theorem gz_some {α : Type} {d : Int32} {x : Option α} {r : α} (h : gz d x = some r) : ¬ d = 0 ∧ x = some r := by
  unfold gz at h
  by_cases c : d = 0
  · rw [if_pos c] at h; cases h
  · rw [if_neg c] at h; exact ⟨c, h⟩
def gzl {α : Type} (d : Int64) (x : Option α) : Option α := if d = 0 then none else x
theorem gzl_some {α : Type} {d : Int64} {x : Option α} {r : α} (h : gzl d x = some r) : ¬ d = 0 ∧ x = some r := by
  unfold gzl at h
  by_cases c : d = 0
  · rw [if_pos c] at h; cases h
  · rw [if_neg c] at h; exact ⟨c, h⟩
def nm {α β : Type} (v : α) (F : α → β) : β := F v
theorem nm_eq {α β : Type} {v y : α} {F : α → β} {r : β} (e : y = v) (h : nm v F = r) : F y = r := by
  subst e; exact h
theorem bd {α β : Type} {o : Option α} {F : α → Option β} {r : β} (h : o.bind F = some r) : ∃ a, o = some a ∧ F a = some r := by
  cases o with
  | none => cases h
  | some a => exact ⟨a, rfl, h⟩
theorem it_t {α : Type} {c : Prop} [Decidable c] {a b r : α} (hc : c) (h : (if c then a else b) = r) : a = r := by rwa [if_pos hc] at h
theorem it_f {α : Type} {c : Prop} [Decidable c] {a b r : α} (hc : ¬ c) (h : (if c then a else b) = r) : b = r := by rwa [if_neg hc] at h
section RowsT
variable {X : Ctx} {E : Env1} {cs : Nat × Nat} {cc : ByteArray} {pc : Nat} {L : List (Option Value)} {st : List Value} {M M' M1 : Mem}
theorem G_nmi {x : Int32} (k : ∀ y, y = x → G X E cs pc L (.int y :: st) M) : G X E cs pc L (.int x :: st) M := k x rfl
theorem G_nml {x : Int64} (k : ∀ y, y = x → G X E cs pc L (.long y :: st) M) : G X E cs pc L (.long x :: st) M := k x rfl
theorem G_nmM (k : ∀ M1, M1 = M → G X E cs pc L st M1) : G X E cs pc L st M := k M rfl
theorem G_ifp {c : Prop} [Decidable c] {a b : Int32} (hc : c) (h : G X E cs pc L (.int (if c then a else b) :: st) M) : G X E cs pc L (.int a :: st) M := by rwa [if_pos hc] at h
theorem G_ifn {c : Prop} [Decidable c] {a b : Int32} (hc : ¬ c) (h : G X E cs pc L (.int (if c then a else b) :: st) M) : G X E cs pc L (.int b :: st) M := by rwa [if_neg hc] at h
theorem G_ifpl {c : Prop} [Decidable c] {a b : Int64} (hc : c) (h : G X E cs pc L (.long (if c then a else b) :: st) M) : G X E cs pc L (.long a :: st) M := by rwa [if_pos hc] at h
theorem G_ifnl {c : Prop} [Decidable c] {a b : Int64} (hc : ¬ c) (h : G X E cs pc L (.long (if c then a else b) :: st) M) : G X E cs pc L (.long b :: st) M := by rwa [if_neg hc] at h
theorem roI {r v : Int32} (hR : RetI X E cc r M) (hd : decode cc pc = .ok (.ireturn, 1)) (hf : some v = some r) : G X E (0, 0) pc L [.int v] M := by cases hf; exact hR _ _ hd
theorem toI {r v : Int32} (hR : RetI X E cc r M) (hd : decode cc pc = .ok (.ireturn, 1)) (hf : v = r) : G X E (0, 0) pc L [.int v] M := by cases hf; exact hR _ _ hd
theorem pwI {r v : Int32} (hR : RetI X E cc r M') (hd : decode cc pc = .ok (.ireturn, 1)) (hf : some (v, M1) = some (r, M')) : G X E (0, 0) pc L [.int v] M1 := by cases hf; exact hR _ _ hd
theorem twI {r v : Int32} (hR : RetI X E cc r M') (hd : decode cc pc = .ok (.ireturn, 1)) (hf : (v, M1) = (r, M')) : G X E (0, 0) pc L [.int v] M1 := by cases hf; exact hR _ _ hd
theorem roZ {r v : Int32} (hR : RetZ X E cc r M) (hd : decode cc pc = .ok (.ireturn, 1)) (hz : v = 0 ∨ v = 1) (hf : some v = some r) : G X E (0, 0) pc L [.int v] M := by cases hf; exact hR _ _ hd hz
theorem toZ {r v : Int32} (hR : RetZ X E cc r M) (hd : decode cc pc = .ok (.ireturn, 1)) (hz : v = 0 ∨ v = 1) (hf : v = r) : G X E (0, 0) pc L [.int v] M := by cases hf; exact hR _ _ hd hz
theorem pwZ {r v : Int32} (hR : RetZ X E cc r M') (hd : decode cc pc = .ok (.ireturn, 1)) (hz : v = 0 ∨ v = 1) (hf : some (v, M1) = some (r, M')) : G X E (0, 0) pc L [.int v] M1 := by cases hf; exact hR _ _ hd hz
theorem twZ {r v : Int32} (hR : RetZ X E cc r M') (hd : decode cc pc = .ok (.ireturn, 1)) (hz : v = 0 ∨ v = 1) (hf : (v, M1) = (r, M')) : G X E (0, 0) pc L [.int v] M1 := by cases hf; exact hR _ _ hd hz
theorem roL {r v : Int64} (hR : RetL X E cc r M) (hd : decode cc pc = .ok (.lreturn, 1)) (hf : some v = some r) : G X E (0, 0) pc L [.long v] M := by cases hf; exact hR _ _ hd
theorem toL {r v : Int64} (hR : RetL X E cc r M) (hd : decode cc pc = .ok (.lreturn, 1)) (hf : v = r) : G X E (0, 0) pc L [.long v] M := by cases hf; exact hR _ _ hd
theorem pwL {r v : Int64} (hR : RetL X E cc r M') (hd : decode cc pc = .ok (.lreturn, 1)) (hf : some (v, M1) = some (r, M')) : G X E (0, 0) pc L [.long v] M1 := by cases hf; exact hR _ _ hd
theorem twL {r v : Int64} (hR : RetL X E cc r M') (hd : decode cc pc = .ok (.lreturn, 1)) (hf : (v, M1) = (r, M')) : G X E (0, 0) pc L [.long v] M1 := by cases hf; exact hR _ _ hd
theorem pwV (hR : RetV X E cc M') (hd : decode cc pc = .ok (.return_, 1)) (hf : some M1 = some M') : G X E (0, 0) pc L [] M1 := by cases hf; exact hR _ _ hd
theorem twV (hR : RetV X E cc M') (hd : decode cc pc = .ok (.return_, 1)) (hf : M1 = M') : G X E (0, 0) pc L [] M1 := by cases hf; exact hR _ _ hd
end RowsT
theorem ite_01 {c : Prop} [Decidable c] {a b : Int32} (ha : a = 0 ∨ a = 1) (hb : b = 0 ∨ b = 1) : (if c then a else b) = 0 ∨ (if c then a else b) = 1 := by
  by_cases h : c
  · rw [if_pos h]; exact ha
  · rw [if_neg h]; exact hb
end CallsG
end
