-- ===== PART A: goes FIRST, ahead of the names: the tables' words, and 'selects' of the private methods out of them =====
/-- a private method of a class that the tables say can be made, by its rows of tables_1 -/
def lw_okq (q : MethodName × Nat) : Prop := (q.1.cls ≠ "java/lang/invoke/MethodHandle" ∧ q.1.cls ≠ "java/lang/invoke/VarHandle") ∧ Cond.instantiable q.1.cls q.2 ∈ tables_1 ∧ Cond.privateMethod q.1 ∈ tables_1 ∧ Cond.instanceMethod q.1 ∈ tables_1
theorem lw_p0 : lw_okq (⟨"TurningGroups$Group", "sizeByFamily", "()I"⟩, 8) := ⟨⟨by decide +kernel, by decide +kernel⟩, List.mem_of_getElem? (i := 21) (by decide +kernel), List.mem_of_getElem? (i := 31) (by decide +kernel), List.mem_of_getElem? (i := 32) (by decide +kernel)⟩
theorem lw_p1 : lw_okq (⟨"TurningGroups$Group", "multiplied", "(II)I"⟩, 8) := ⟨⟨by decide +kernel, by decide +kernel⟩, List.mem_of_getElem? (i := 21) (by decide +kernel), List.mem_of_getElem? (i := 35) (by decide +kernel), List.mem_of_getElem? (i := 36) (by decide +kernel)⟩
theorem lw_p2 : lw_okq (⟨"TurningGroups$Group", "intoRing", "(I)I"⟩, 8) := ⟨⟨by decide +kernel, by decide +kernel⟩, List.mem_of_getElem? (i := 21) (by decide +kernel), List.mem_of_getElem? (i := 39) (by decide +kernel), List.mem_of_getElem? (i := 40) (by decide +kernel)⟩
theorem lw_p3 : lw_okq (⟨"TurningGroups$Group", "mirrored", "(II)I"⟩, 8) := ⟨⟨by decide +kernel, by decide +kernel⟩, List.mem_of_getElem? (i := 21) (by decide +kernel), List.mem_of_getElem? (i := 43) (by decide +kernel), List.mem_of_getElem? (i := 44) (by decide +kernel)⟩
theorem lw_p4 : lw_okq (⟨"TurningGroups$Group", "crossed", "(II)I"⟩, 8) := ⟨⟨by decide +kernel, by decide +kernel⟩, List.mem_of_getElem? (i := 21) (by decide +kernel), List.mem_of_getElem? (i := 47) (by decide +kernel), List.mem_of_getElem? (i := 48) (by decide +kernel)⟩
theorem lw_p5 : lw_okq (⟨"TurningGroups$Group", "findInverseAndOrder", "(I)V"⟩, 8) := ⟨⟨by decide +kernel, by decide +kernel⟩, List.mem_of_getElem? (i := 21) (by decide +kernel), List.mem_of_getElem? (i := 51) (by decide +kernel), List.mem_of_getElem? (i := 52) (by decide +kernel)⟩
theorem lw_p6 : lw_okq (⟨"TurningGroups$Group", "findConjugates", "()V"⟩, 8) := ⟨⟨by decide +kernel, by decide +kernel⟩, List.mem_of_getElem? (i := 21) (by decide +kernel), List.mem_of_getElem? (i := 59) (by decide +kernel), List.mem_of_getElem? (i := 60) (by decide +kernel)⟩
theorem lw_p7 : lw_okq (⟨"TurningGroups$Group", "findSpans", "()V"⟩, 8) := ⟨⟨by decide +kernel, by decide +kernel⟩, List.mem_of_getElem? (i := 21) (by decide +kernel), List.mem_of_getElem? (i := 63) (by decide +kernel), List.mem_of_getElem? (i := 64) (by decide +kernel)⟩
theorem lw_p8 : lw_okq (⟨"TurningGroups$Group", "grownToSpan", "(I)I"⟩, 8) := ⟨⟨by decide +kernel, by decide +kernel⟩, List.mem_of_getElem? (i := 21) (by decide +kernel), List.mem_of_getElem? (i := 67) (by decide +kernel), List.mem_of_getElem? (i := 68) (by decide +kernel)⟩
theorem lw_p9 : lw_okq (⟨"TurningGroups", "forgetMaps", "()V"⟩, 10) := ⟨⟨by decide +kernel, by decide +kernel⟩, List.mem_of_getElem? (i := 13) (by decide +kernel), List.mem_of_getElem? (i := 260) (by decide +kernel), List.mem_of_getElem? (i := 261) (by decide +kernel)⟩
theorem lw_p10 : lw_okq (⟨"TurningGroups$Rows", "productOfFirst", "(I)I"⟩, 3) := ⟨⟨by decide +kernel, by decide +kernel⟩, List.mem_of_getElem? (i := 135) (by decide +kernel), List.mem_of_getElem? (i := 403) (by decide +kernel), List.mem_of_getElem? (i := 404) (by decide +kernel)⟩
theorem lw_p11 : lw_okq (⟨"TurningGroups$Rows", "isWhole", "()Z"⟩, 3) := ⟨⟨by decide +kernel, by decide +kernel⟩, List.mem_of_getElem? (i := 135) (by decide +kernel), List.mem_of_getElem? (i := 412) (by decide +kernel), List.mem_of_getElem? (i := 413) (by decide +kernel)⟩
theorem lw_p12 : lw_okq (⟨"TurningGroups$Rows", "hasOrders", "(I)Z"⟩, 3) := ⟨⟨by decide +kernel, by decide +kernel⟩, List.mem_of_getElem? (i := 135) (by decide +kernel), List.mem_of_getElem? (i := 419) (by decide +kernel), List.mem_of_getElem? (i := 420) (by decide +kernel)⟩
theorem lw_p13 : lw_okq (⟨"TurningGroups$Rows", "freeDigits", "()I"⟩, 3) := ⟨⟨by decide +kernel, by decide +kernel⟩, List.mem_of_getElem? (i := 135) (by decide +kernel), List.mem_of_getElem? (i := 431) (by decide +kernel), List.mem_of_getElem? (i := 432) (by decide +kernel)⟩
theorem lw_p14 : lw_okq (⟨"TurningGroups", "readsMap", "(I)Z"⟩, 10) := ⟨⟨by decide +kernel, by decide +kernel⟩, List.mem_of_getElem? (i := 13) (by decide +kernel), List.mem_of_getElem? (i := 464) (by decide +kernel), List.mem_of_getElem? (i := 465) (by decide +kernel)⟩
theorem lw_p15 : lw_okq (⟨"TurningGroups$Rows", "moveNeighbours", "(I)V"⟩, 3) := ⟨⟨by decide +kernel, by decide +kernel⟩, List.mem_of_getElem? (i := 135) (by decide +kernel), List.mem_of_getElem? (i := 502) (by decide +kernel), List.mem_of_getElem? (i := 503) (by decide +kernel)⟩
def lw_privs_1 : List (MethodName × Nat) := [(⟨"TurningGroups$Group", "sizeByFamily", "()I"⟩, 8), (⟨"TurningGroups$Group", "multiplied", "(II)I"⟩, 8), (⟨"TurningGroups$Group", "intoRing", "(I)I"⟩, 8), (⟨"TurningGroups$Group", "mirrored", "(II)I"⟩, 8), (⟨"TurningGroups$Group", "crossed", "(II)I"⟩, 8), (⟨"TurningGroups$Group", "findInverseAndOrder", "(I)V"⟩, 8), (⟨"TurningGroups$Group", "findConjugates", "()V"⟩, 8), (⟨"TurningGroups$Group", "findSpans", "()V"⟩, 8), (⟨"TurningGroups$Group", "grownToSpan", "(I)I"⟩, 8), (⟨"TurningGroups", "forgetMaps", "()V"⟩, 10), (⟨"TurningGroups$Rows", "productOfFirst", "(I)I"⟩, 3), (⟨"TurningGroups$Rows", "isWhole", "()Z"⟩, 3), (⟨"TurningGroups$Rows", "hasOrders", "(I)Z"⟩, 3), (⟨"TurningGroups$Rows", "freeDigits", "()I"⟩, 3), (⟨"TurningGroups", "readsMap", "(I)Z"⟩, 10), (⟨"TurningGroups$Rows", "moveNeighbours", "(I)V"⟩, 3)]
theorem lw_r1 : ∀ q ∈ lw_privs_1, lw_okq q := List.forall_mem_cons.mpr ⟨lw_p0, List.forall_mem_cons.mpr ⟨lw_p1, List.forall_mem_cons.mpr ⟨lw_p2, List.forall_mem_cons.mpr ⟨lw_p3, List.forall_mem_cons.mpr ⟨lw_p4, List.forall_mem_cons.mpr ⟨lw_p5, List.forall_mem_cons.mpr ⟨lw_p6, List.forall_mem_cons.mpr ⟨lw_p7, List.forall_mem_cons.mpr ⟨lw_p8, List.forall_mem_cons.mpr ⟨lw_p9, List.forall_mem_cons.mpr ⟨lw_p10, List.forall_mem_cons.mpr ⟨lw_p11, List.forall_mem_cons.mpr ⟨lw_p12, List.forall_mem_cons.mpr ⟨lw_p13, List.forall_mem_cons.mpr ⟨lw_p14, List.forall_mem_cons.mpr ⟨lw_p15, fun _ h => absurd h List.not_mem_nil⟩⟩⟩⟩⟩⟩⟩⟩⟩⟩⟩⟩⟩⟩⟩⟩
theorem lw_p16 : lw_okq (⟨"TurningGroups$Rows", "swapNeighbours", "(I)V"⟩, 3) := ⟨⟨by decide +kernel, by decide +kernel⟩, List.mem_of_getElem? (i := 135) (by decide +kernel), List.mem_of_getElem? (i := 506) (by decide +kernel), List.mem_of_getElem? (i := 507) (by decide +kernel)⟩
theorem lw_p17 : lw_okq (⟨"TurningGroups$Rows", "moveByElement", "(I)V"⟩, 3) := ⟨⟨by decide +kernel, by decide +kernel⟩, List.mem_of_getElem? (i := 135) (by decide +kernel), List.mem_of_getElem? (i := 511) (by decide +kernel), List.mem_of_getElem? (i := 512) (by decide +kernel)⟩
theorem lw_p18 : lw_okq (⟨"TurningGroups$Rows", "movesOfNeighbours", "()I"⟩, 3) := ⟨⟨by decide +kernel, by decide +kernel⟩, List.mem_of_getElem? (i := 135) (by decide +kernel), List.mem_of_getElem? (i := 529) (by decide +kernel), List.mem_of_getElem? (i := 530) (by decide +kernel)⟩
theorem lw_p19 : lw_okq (⟨"TurningGroups$Classes", "findSteps", "(I)V"⟩, 10) := ⟨⟨by decide +kernel, by decide +kernel⟩, List.mem_of_getElem? (i := 179) (by decide +kernel), List.mem_of_getElem? (i := 537) (by decide +kernel), List.mem_of_getElem? (i := 538) (by decide +kernel)⟩
theorem lw_p20 : lw_okq (⟨"TurningGroups$Classes", "sort", "()V"⟩, 10) := ⟨⟨by decide +kernel, by decide +kernel⟩, List.mem_of_getElem? (i := 179) (by decide +kernel), List.mem_of_getElem? (i := 552) (by decide +kernel), List.mem_of_getElem? (i := 553) (by decide +kernel)⟩
theorem lw_p21 : lw_okq (⟨"TurningGroups$Classes", "spreadFrom", "(I)I"⟩, 10) := ⟨⟨by decide +kernel, by decide +kernel⟩, List.mem_of_getElem? (i := 179) (by decide +kernel), List.mem_of_getElem? (i := 557) (by decide +kernel), List.mem_of_getElem? (i := 558) (by decide +kernel)⟩
theorem lw_p22 : lw_okq (⟨"TurningGroups", "packed", "()I"⟩, 10) := ⟨⟨by decide +kernel, by decide +kernel⟩, List.mem_of_getElem? (i := 13) (by decide +kernel), List.mem_of_getElem? (i := 615) (by decide +kernel), List.mem_of_getElem? (i := 616) (by decide +kernel)⟩
theorem lw_p23 : lw_okq (⟨"TurningGroups", "shelvesInUse", "()I"⟩, 10) := ⟨⟨by decide +kernel, by decide +kernel⟩, List.mem_of_getElem? (i := 13) (by decide +kernel), List.mem_of_getElem? (i := 619) (by decide +kernel), List.mem_of_getElem? (i := 620) (by decide +kernel)⟩
theorem lw_p24 : lw_okq (⟨"TurningGroups", "unpack", "(I)V"⟩, 10) := ⟨⟨by decide +kernel, by decide +kernel⟩, List.mem_of_getElem? (i := 13) (by decide +kernel), List.mem_of_getElem? (i := 627) (by decide +kernel), List.mem_of_getElem? (i := 628) (by decide +kernel)⟩
theorem lw_p25 : lw_okq (⟨"TurningGroups", "firstLike", "(I)I"⟩, 10) := ⟨⟨by decide +kernel, by decide +kernel⟩, List.mem_of_getElem? (i := 13) (by decide +kernel), List.mem_of_getElem? (i := 644) (by decide +kernel), List.mem_of_getElem? (i := 645) (by decide +kernel)⟩
theorem lw_p26 : lw_okq (⟨"TurningGroupsModel", "layTable", "()V"⟩, 34) := ⟨⟨by decide +kernel, by decide +kernel⟩, List.mem_of_getElem? (i := 667) (by decide +kernel), List.mem_of_getElem? (i := 673) (by decide +kernel), List.mem_of_getElem? (i := 674) (by decide +kernel)⟩
theorem lw_p27 : lw_okq (⟨"TurningGroupsModel", "mirrored", "(II)I"⟩, 34) := ⟨⟨by decide +kernel, by decide +kernel⟩, List.mem_of_getElem? (i := 667) (by decide +kernel), List.mem_of_getElem? (i := 680) (by decide +kernel), List.mem_of_getElem? (i := 681) (by decide +kernel)⟩
theorem lw_p28 : lw_okq (⟨"TurningGroupsModel", "isElement", "(I)Z"⟩, 34) := ⟨⟨by decide +kernel, by decide +kernel⟩, List.mem_of_getElem? (i := 667) (by decide +kernel), List.mem_of_getElem? (i := 801) (by decide +kernel), List.mem_of_getElem? (i := 802) (by decide +kernel)⟩
theorem lw_p29 : lw_okq (⟨"TurningGroupsModel", "orderOf", "(I)I"⟩, 34) := ⟨⟨by decide +kernel, by decide +kernel⟩, List.mem_of_getElem? (i := 667) (by decide +kernel), List.mem_of_getElem? (i := 805) (by decide +kernel), List.mem_of_getElem? (i := 806) (by decide +kernel)⟩
theorem lw_p30 : lw_okq (⟨"TurningGroupsModel", "product", "(II)I"⟩, 34) := ⟨⟨by decide +kernel, by decide +kernel⟩, List.mem_of_getElem? (i := 667) (by decide +kernel), List.mem_of_getElem? (i := 809) (by decide +kernel), List.mem_of_getElem? (i := 810) (by decide +kernel)⟩
theorem lw_p31 : lw_okq (⟨"TurningGroupsModel", "inverse", "(I)I"⟩, 34) := ⟨⟨by decide +kernel, by decide +kernel⟩, List.mem_of_getElem? (i := 667) (by decide +kernel), List.mem_of_getElem? (i := 813) (by decide +kernel), List.mem_of_getElem? (i := 814) (by decide +kernel)⟩
def lw_privs_2 : List (MethodName × Nat) := [(⟨"TurningGroups$Rows", "swapNeighbours", "(I)V"⟩, 3), (⟨"TurningGroups$Rows", "moveByElement", "(I)V"⟩, 3), (⟨"TurningGroups$Rows", "movesOfNeighbours", "()I"⟩, 3), (⟨"TurningGroups$Classes", "findSteps", "(I)V"⟩, 10), (⟨"TurningGroups$Classes", "sort", "()V"⟩, 10), (⟨"TurningGroups$Classes", "spreadFrom", "(I)I"⟩, 10), (⟨"TurningGroups", "packed", "()I"⟩, 10), (⟨"TurningGroups", "shelvesInUse", "()I"⟩, 10), (⟨"TurningGroups", "unpack", "(I)V"⟩, 10), (⟨"TurningGroups", "firstLike", "(I)I"⟩, 10), (⟨"TurningGroupsModel", "layTable", "()V"⟩, 34), (⟨"TurningGroupsModel", "mirrored", "(II)I"⟩, 34), (⟨"TurningGroupsModel", "isElement", "(I)Z"⟩, 34), (⟨"TurningGroupsModel", "orderOf", "(I)I"⟩, 34), (⟨"TurningGroupsModel", "product", "(II)I"⟩, 34), (⟨"TurningGroupsModel", "inverse", "(I)I"⟩, 34)]
theorem lw_r2 : ∀ q ∈ lw_privs_2, lw_okq q := List.forall_mem_cons.mpr ⟨lw_p16, List.forall_mem_cons.mpr ⟨lw_p17, List.forall_mem_cons.mpr ⟨lw_p18, List.forall_mem_cons.mpr ⟨lw_p19, List.forall_mem_cons.mpr ⟨lw_p20, List.forall_mem_cons.mpr ⟨lw_p21, List.forall_mem_cons.mpr ⟨lw_p22, List.forall_mem_cons.mpr ⟨lw_p23, List.forall_mem_cons.mpr ⟨lw_p24, List.forall_mem_cons.mpr ⟨lw_p25, List.forall_mem_cons.mpr ⟨lw_p26, List.forall_mem_cons.mpr ⟨lw_p27, List.forall_mem_cons.mpr ⟨lw_p28, List.forall_mem_cons.mpr ⟨lw_p29, List.forall_mem_cons.mpr ⟨lw_p30, List.forall_mem_cons.mpr ⟨lw_p31, fun _ h => absurd h List.not_mem_nil⟩⟩⟩⟩⟩⟩⟩⟩⟩⟩⟩⟩⟩⟩⟩⟩
theorem lw_p32 : lw_okq (⟨"TurningGroupsModel", "turned", "(II)I"⟩, 34) := ⟨⟨by decide +kernel, by decide +kernel⟩, List.mem_of_getElem? (i := 667) (by decide +kernel), List.mem_of_getElem? (i := 817) (by decide +kernel), List.mem_of_getElem? (i := 818) (by decide +kernel)⟩
theorem lw_p33 : lw_okq (⟨"TurningGroupsModel", "isSet", "(I)Z"⟩, 34) := ⟨⟨by decide +kernel, by decide +kernel⟩, List.mem_of_getElem? (i := 667) (by decide +kernel), List.mem_of_getElem? (i := 840) (by decide +kernel), List.mem_of_getElem? (i := 841) (by decide +kernel)⟩
theorem lw_p34 : lw_okq (⟨"TurningGroupsModel", "spanOf", "(I)I"⟩, 34) := ⟨⟨by decide +kernel, by decide +kernel⟩, List.mem_of_getElem? (i := 667) (by decide +kernel), List.mem_of_getElem? (i := 844) (by decide +kernel), List.mem_of_getElem? (i := 845) (by decide +kernel)⟩
theorem lw_p35 : lw_okq (⟨"TurningGroupsModel", "isSubgroup", "(I)Z"⟩, 34) := ⟨⟨by decide +kernel, by decide +kernel⟩, List.mem_of_getElem? (i := 667) (by decide +kernel), List.mem_of_getElem? (i := 852) (by decide +kernel), List.mem_of_getElem? (i := 853) (by decide +kernel)⟩
theorem lw_p36 : lw_okq (⟨"TurningGroupsModel", "isNormal", "(I)Z"⟩, 34) := ⟨⟨by decide +kernel, by decide +kernel⟩, List.mem_of_getElem? (i := 667) (by decide +kernel), List.mem_of_getElem? (i := 860) (by decide +kernel), List.mem_of_getElem? (i := 861) (by decide +kernel)⟩
theorem lw_p37 : lw_okq (⟨"TurningGroupsModel", "lay", "()V"⟩, 34) := ⟨⟨by decide +kernel, by decide +kernel⟩, List.mem_of_getElem? (i := 667) (by decide +kernel), List.mem_of_getElem? (i := 888) (by decide +kernel), List.mem_of_getElem? (i := 889) (by decide +kernel)⟩
theorem lw_p38 : lw_okq (⟨"TurningGroupsModel", "length", "()I"⟩, 34) := ⟨⟨by decide +kernel, by decide +kernel⟩, List.mem_of_getElem? (i := 667) (by decide +kernel), List.mem_of_getElem? (i := 892) (by decide +kernel), List.mem_of_getElem? (i := 893) (by decide +kernel)⟩
theorem lw_p39 : lw_okq (⟨"TurningGroupsModel", "codeIs", "(I)I"⟩, 34) := ⟨⟨by decide +kernel, by decide +kernel⟩, List.mem_of_getElem? (i := 667) (by decide +kernel), List.mem_of_getElem? (i := 899) (by decide +kernel), List.mem_of_getElem? (i := 900) (by decide +kernel)⟩
theorem lw_p40 : lw_okq (⟨"TurningGroupsModel", "read", "(I)V"⟩, 34) := ⟨⟨by decide +kernel, by decide +kernel⟩, List.mem_of_getElem? (i := 667) (by decide +kernel), List.mem_of_getElem? (i := 903) (by decide +kernel), List.mem_of_getElem? (i := 904) (by decide +kernel)⟩
theorem lw_p41 : lw_okq (⟨"TurningGroupsModel", "whatIs", "()I"⟩, 34) := ⟨⟨by decide +kernel, by decide +kernel⟩, List.mem_of_getElem? (i := 667) (by decide +kernel), List.mem_of_getElem? (i := 907) (by decide +kernel), List.mem_of_getElem? (i := 908) (by decide +kernel)⟩
theorem lw_p42 : lw_okq (⟨"TurningGroupsModel", "layClasses", "()V"⟩, 34) := ⟨⟨by decide +kernel, by decide +kernel⟩, List.mem_of_getElem? (i := 667) (by decide +kernel), List.mem_of_getElem? (i := 911) (by decide +kernel), List.mem_of_getElem? (i := 912) (by decide +kernel)⟩
theorem lw_p43 : lw_okq (⟨"TurningGroupsModel", "spread", "(I)V"⟩, 34) := ⟨⟨by decide +kernel, by decide +kernel⟩, List.mem_of_getElem? (i := 667) (by decide +kernel), List.mem_of_getElem? (i := 915) (by decide +kernel), List.mem_of_getElem? (i := 916) (by decide +kernel)⟩
theorem lw_p44 : lw_okq (⟨"TurningGroupsModel", "isMove", "(I)Z"⟩, 34) := ⟨⟨by decide +kernel, by decide +kernel⟩, List.mem_of_getElem? (i := 667) (by decide +kernel), List.mem_of_getElem? (i := 919) (by decide +kernel), List.mem_of_getElem? (i := 920) (by decide +kernel)⟩
theorem lw_p45 : lw_okq (⟨"TurningGroupsModel", "moved", "(II)I"⟩, 34) := ⟨⟨by decide +kernel, by decide +kernel⟩, List.mem_of_getElem? (i := 667) (by decide +kernel), List.mem_of_getElem? (i := 923) (by decide +kernel), List.mem_of_getElem? (i := 924) (by decide +kernel)⟩
theorem lw_p46 : lw_okq (⟨"TurningGroupsModel", "swap", "(I)V"⟩, 34) := ⟨⟨by decide +kernel, by decide +kernel⟩, List.mem_of_getElem? (i := 667) (by decide +kernel), List.mem_of_getElem? (i := 927) (by decide +kernel), List.mem_of_getElem? (i := 928) (by decide +kernel)⟩
theorem lw_p47 : lw_okq (⟨"TurningGroupsModel", "written", "()I"⟩, 34) := ⟨⟨by decide +kernel, by decide +kernel⟩, List.mem_of_getElem? (i := 667) (by decide +kernel), List.mem_of_getElem? (i := 931) (by decide +kernel), List.mem_of_getElem? (i := 932) (by decide +kernel)⟩
def lw_privs_3 : List (MethodName × Nat) := [(⟨"TurningGroupsModel", "turned", "(II)I"⟩, 34), (⟨"TurningGroupsModel", "isSet", "(I)Z"⟩, 34), (⟨"TurningGroupsModel", "spanOf", "(I)I"⟩, 34), (⟨"TurningGroupsModel", "isSubgroup", "(I)Z"⟩, 34), (⟨"TurningGroupsModel", "isNormal", "(I)Z"⟩, 34), (⟨"TurningGroupsModel", "lay", "()V"⟩, 34), (⟨"TurningGroupsModel", "length", "()I"⟩, 34), (⟨"TurningGroupsModel", "codeIs", "(I)I"⟩, 34), (⟨"TurningGroupsModel", "read", "(I)V"⟩, 34), (⟨"TurningGroupsModel", "whatIs", "()I"⟩, 34), (⟨"TurningGroupsModel", "layClasses", "()V"⟩, 34), (⟨"TurningGroupsModel", "spread", "(I)V"⟩, 34), (⟨"TurningGroupsModel", "isMove", "(I)Z"⟩, 34), (⟨"TurningGroupsModel", "moved", "(II)I"⟩, 34), (⟨"TurningGroupsModel", "swap", "(I)V"⟩, 34), (⟨"TurningGroupsModel", "written", "()I"⟩, 34)]
theorem lw_r3 : ∀ q ∈ lw_privs_3, lw_okq q := List.forall_mem_cons.mpr ⟨lw_p32, List.forall_mem_cons.mpr ⟨lw_p33, List.forall_mem_cons.mpr ⟨lw_p34, List.forall_mem_cons.mpr ⟨lw_p35, List.forall_mem_cons.mpr ⟨lw_p36, List.forall_mem_cons.mpr ⟨lw_p37, List.forall_mem_cons.mpr ⟨lw_p38, List.forall_mem_cons.mpr ⟨lw_p39, List.forall_mem_cons.mpr ⟨lw_p40, List.forall_mem_cons.mpr ⟨lw_p41, List.forall_mem_cons.mpr ⟨lw_p42, List.forall_mem_cons.mpr ⟨lw_p43, List.forall_mem_cons.mpr ⟨lw_p44, List.forall_mem_cons.mpr ⟨lw_p45, List.forall_mem_cons.mpr ⟨lw_p46, List.forall_mem_cons.mpr ⟨lw_p47, fun _ h => absurd h List.not_mem_nil⟩⟩⟩⟩⟩⟩⟩⟩⟩⟩⟩⟩⟩⟩⟩⟩
theorem lw_p48 : lw_okq (⟨"TurningGroupsModel", "placeOf", "(I)I"⟩, 34) := ⟨⟨by decide +kernel, by decide +kernel⟩, List.mem_of_getElem? (i := 667) (by decide +kernel), List.mem_of_getElem? (i := 935) (by decide +kernel), List.mem_of_getElem? (i := 936) (by decide +kernel)⟩
theorem lw_p49 : lw_okq (⟨"TurningGroupsModel", "genusOf", "()I"⟩, 34) := ⟨⟨by decide +kernel, by decide +kernel⟩, List.mem_of_getElem? (i := 667) (by decide +kernel), List.mem_of_getElem? (i := 947) (by decide +kernel), List.mem_of_getElem? (i := 948) (by decide +kernel)⟩
theorem lw_p50 : lw_okq (⟨"TurningGroupsModel", "leftOf", "(II)I"⟩, 34) := ⟨⟨by decide +kernel, by decide +kernel⟩, List.mem_of_getElem? (i := 667) (by decide +kernel), List.mem_of_getElem? (i := 955) (by decide +kernel), List.mem_of_getElem? (i := 956) (by decide +kernel)⟩
theorem lw_p51 : lw_okq (⟨"TurningGroupsModel", "classSize", "(I)I"⟩, 34) := ⟨⟨by decide +kernel, by decide +kernel⟩, List.mem_of_getElem? (i := 667) (by decide +kernel), List.mem_of_getElem? (i := 975) (by decide +kernel), List.mem_of_getElem? (i := 976) (by decide +kernel)⟩
theorem lw_p52 : lw_okq (⟨"TurningGroupsModel", "find", "(III)V"⟩, 34) := ⟨⟨by decide +kernel, by decide +kernel⟩, List.mem_of_getElem? (i := 667) (by decide +kernel), List.mem_of_getElem? (i := 995) (by decide +kernel), List.mem_of_getElem? (i := 996) (by decide +kernel)⟩
theorem lw_p53 : lw_okq (⟨"TurningGroupsModel", "look", "(II)V"⟩, 34) := ⟨⟨by decide +kernel, by decide +kernel⟩, List.mem_of_getElem? (i := 667) (by decide +kernel), List.mem_of_getElem? (i := 999) (by decide +kernel), List.mem_of_getElem? (i := 1000) (by decide +kernel)⟩
theorem lw_p54 : lw_okq (⟨"TurningGroupsModel", "divides", "()Z"⟩, 34) := ⟨⟨by decide +kernel, by decide +kernel⟩, List.mem_of_getElem? (i := 667) (by decide +kernel), List.mem_of_getElem? (i := 1003) (by decide +kernel), List.mem_of_getElem? (i := 1004) (by decide +kernel)⟩
theorem lw_p55 : lw_okq (⟨"TurningGroupsModel", "hasMaps", "()Z"⟩, 34) := ⟨⟨by decide +kernel, by decide +kernel⟩, List.mem_of_getElem? (i := 667) (by decide +kernel), List.mem_of_getElem? (i := 1007) (by decide +kernel), List.mem_of_getElem? (i := 1008) (by decide +kernel)⟩
theorem lw_p56 : lw_okq (⟨"TurningGroupsModel", "goesOn", "()Z"⟩, 34) := ⟨⟨by decide +kernel, by decide +kernel⟩, List.mem_of_getElem? (i := 667) (by decide +kernel), List.mem_of_getElem? (i := 1011) (by decide +kernel), List.mem_of_getElem? (i := 1012) (by decide +kernel)⟩
theorem lw_p57 : lw_okq (⟨"TurningGroupsModel", "shelvesMany", "()I"⟩, 34) := ⟨⟨by decide +kernel, by decide +kernel⟩, List.mem_of_getElem? (i := 667) (by decide +kernel), List.mem_of_getElem? (i := 1019) (by decide +kernel), List.mem_of_getElem? (i := 1020) (by decide +kernel)⟩
theorem lw_p58 : lw_okq (⟨"TurningGroupsModel", "firstLike", "(I)I"⟩, 34) := ⟨⟨by decide +kernel, by decide +kernel⟩, List.mem_of_getElem? (i := 667) (by decide +kernel), List.mem_of_getElem? (i := 1035) (by decide +kernel), List.mem_of_getElem? (i := 1036) (by decide +kernel)⟩
theorem lw_p59 : lw_okq (⟨"TurningGroupsModel", "areLike", "(II)Z"⟩, 34) := ⟨⟨by decide +kernel, by decide +kernel⟩, List.mem_of_getElem? (i := 667) (by decide +kernel), List.mem_of_getElem? (i := 1039) (by decide +kernel), List.mem_of_getElem? (i := 1040) (by decide +kernel)⟩
def lw_privs_4 : List (MethodName × Nat) := [(⟨"TurningGroupsModel", "placeOf", "(I)I"⟩, 34), (⟨"TurningGroupsModel", "genusOf", "()I"⟩, 34), (⟨"TurningGroupsModel", "leftOf", "(II)I"⟩, 34), (⟨"TurningGroupsModel", "classSize", "(I)I"⟩, 34), (⟨"TurningGroupsModel", "find", "(III)V"⟩, 34), (⟨"TurningGroupsModel", "look", "(II)V"⟩, 34), (⟨"TurningGroupsModel", "divides", "()Z"⟩, 34), (⟨"TurningGroupsModel", "hasMaps", "()Z"⟩, 34), (⟨"TurningGroupsModel", "goesOn", "()Z"⟩, 34), (⟨"TurningGroupsModel", "shelvesMany", "()I"⟩, 34), (⟨"TurningGroupsModel", "firstLike", "(I)I"⟩, 34), (⟨"TurningGroupsModel", "areLike", "(II)Z"⟩, 34)]
theorem lw_r4 : ∀ q ∈ lw_privs_4, lw_okq q := List.forall_mem_cons.mpr ⟨lw_p48, List.forall_mem_cons.mpr ⟨lw_p49, List.forall_mem_cons.mpr ⟨lw_p50, List.forall_mem_cons.mpr ⟨lw_p51, List.forall_mem_cons.mpr ⟨lw_p52, List.forall_mem_cons.mpr ⟨lw_p53, List.forall_mem_cons.mpr ⟨lw_p54, List.forall_mem_cons.mpr ⟨lw_p55, List.forall_mem_cons.mpr ⟨lw_p56, List.forall_mem_cons.mpr ⟨lw_p57, List.forall_mem_cons.mpr ⟨lw_p58, List.forall_mem_cons.mpr ⟨lw_p59, fun _ h => absurd h List.not_mem_nil⟩⟩⟩⟩⟩⟩⟩⟩⟩⟩⟩⟩
def lw_privs : List (MethodName × Nat) := lw_privs_1 ++ (lw_privs_2 ++ (lw_privs_3 ++ (lw_privs_4)))
def lw_tbl : List Cond := k2_sels lw_privs ++ tables_1
theorem lw_privs_ok : ∀ q ∈ lw_privs, lw_okq q := by
  show ∀ q ∈ lw_privs_1 ++ (lw_privs_2 ++ (lw_privs_3 ++ (lw_privs_4))), lw_okq q
  exact List.forall_mem_append.mpr ⟨lw_r1, List.forall_mem_append.mpr ⟨lw_r2, List.forall_mem_append.mpr ⟨lw_r3, lw_r4⟩⟩⟩
-- ===== end of PART A; then your names; then what follows =====
/-! ===== BEGIN words of one list among another's, by their places ===== -/
theorem goodIn_r {big : List Cond} (ws : List Cond) (ps : List Nat) (hp : ws = ps.filterMap (fun i => big[i]?)) (h : ws.all goodWord = true) : GoodIn big ws := by
  intro w hw
  have h1 := List.all_eq_true.mp h w hw
  rw [hp] at hw
  obtain ⟨i, -, hi⟩ := List.mem_filterMap.mp hw
  have hm : w ∈ big := by first | exact List.mem_of_getElem? hi | exact List.getElem?_mem hi
  exact ⟨hm, good_of_word h1⟩
theorem goodIn_app {big a b : List Cond} (ha : GoodIn big a) (hb : GoodIn big b) : GoodIn big (a ++ b) := fun w h => (List.mem_append.mp h).elim (ha w) (hb w)
theorem goodIn_ca {big a b : List Cond} {c : Cond} (ha : GoodIn big (c :: a)) (hb : GoodIn big b) : GoodIn big (c :: (a ++ b)) := fun w h => (List.mem_cons.mp h).elim (fun e => ha w (List.mem_cons.mpr (Or.inl e))) (fun h => (List.mem_append.mp h).elim (fun h => ha w (List.mem_cons.mpr (Or.inr h))) (hb w))
theorem goodIn_sub {big ws : List Cond} (hm : ∀ w ∈ ws, w ∈ big) (h : ws.all goodWord = true) : GoodIn big ws := fun w hw => ⟨hm w hw, good_of_word (List.all_eq_true.mp h w hw)⟩
/-! ===== END ===== -/

/-! ===== BEGIN printed: names, fields, word lists, decode rows ===== -/
def RX0 : String := "TurningGroups$Classes"
def TX0 : u_T := fun k => match k with
  | 0 => ("TurningGroups$Classes", "maps", "LTurningGroups$Maps;", true)
  | 1 => ("TurningGroups$Classes", "rows", "LTurningGroups$Rows;", true)
  | 2 => ("TurningGroups$Classes", "steps", "[I", true)
  | 3 => ("TurningGroups$Classes", "numbers", "[I", true)
  | 4 => ("TurningGroups$Classes", "sizes", "[I", true)
  | 5 => ("TurningGroups$Classes", "queue", "[I", true)
  | 6 => ("TurningGroups$Classes", "distances", "[I", true)
  | 7 => ("TurningGroups$Classes", "moves", "I", false)
  | 8 => ("TurningGroups$Classes", "count", "I", false)
  | _ => ("TurningGroups$Classes", "known", "Z", false)
def tyX0 : Nat → FieldType := fun k => match k with
  | 0 => .object "TurningGroups$Maps"
  | 1 => .object "TurningGroups$Rows"
  | 2 => .array .int
  | 3 => .array .int
  | 4 => .array .int
  | 5 => .array .int
  | 6 => .array .int
  | 7 => .int
  | 8 => .int
  | _ => .boolean
abbrev wsX00 : List Cond := u_ws RX0 TX0 10
theorem nmX0 : ∀ a, a < 10 → ∀ b, b < 10 → a ≠ b → (TX0 a).2.1 ≠ (TX0 b).2.1 := by decide +kernel
theorem tyX0_ok : ∀ k, k < 10 → parseFieldDescriptor (TX0 k).2.2.1 = some (tyX0 k) := by decide +kernel
abbrev cX0_init : ByteArray := prog_2_method_1_code
def yX0_init : MethodName := ⟨RX0, "<init>", "(LTurningGroups$Maps;)V"⟩
abbrev cX0_prepare : ByteArray := prog_2_method_2_code
def yX0_prepare : MethodName := ⟨RX0, "prepare", "()V"⟩
abbrev cX0_findSteps : ByteArray := prog_2_method_3_code
def yX0_findSteps : MethodName := ⟨RX0, "findSteps", "(I)V"⟩
abbrev cX0_sort : ByteArray := prog_2_method_4_code
def yX0_sort : MethodName := ⟨RX0, "sort", "()V"⟩
abbrev cX0_spreadFrom : ByteArray := prog_2_method_5_code
def yX0_spreadFrom : MethodName := ⟨RX0, "spreadFrom", "(I)I"⟩
abbrev cX0_distance : ByteArray := prog_2_method_6_code
def yX0_distance : MethodName := ⟨RX0, "distance", "(II)I"⟩
abbrev cX0_sizeOf : ByteArray := prog_2_method_7_code
def yX0_sizeOf : MethodName := ⟨RX0, "sizeOf", "(I)I"⟩
abbrev cX0_greatest : ByteArray := prog_2_method_8_code
def yX0_greatest : MethodName := ⟨RX0, "greatest", "()I"⟩
abbrev cX0_codeOf : ByteArray := prog_2_method_9_code
def yX0_codeOf : MethodName := ⟨RX0, "codeOf", "(II)I"⟩
def RX1 : String := "TurningGroups$Group"
def TX1 : u_T := fun k => match k with
  | 0 => ("TurningGroups$Group", "family", "I", false)
  | 1 => ("TurningGroups$Group", "n", "I", false)
  | 2 => ("TurningGroups$Group", "size", "I", false)
  | 3 => ("TurningGroups$Group", "products", "[I", true)
  | 4 => ("TurningGroups$Group", "inverses", "[I", true)
  | 5 => ("TurningGroups$Group", "orders", "[I", true)
  | 6 => ("TurningGroups$Group", "conjugates", "[I", true)
  | _ => ("TurningGroups$Group", "spans", "[I", true)
def tyX1 : Nat → FieldType := fun k => match k with
  | 0 => .int
  | 1 => .int
  | 2 => .int
  | 3 => .array .int
  | 4 => .array .int
  | 5 => .array .int
  | 6 => .array .int
  | _ => .array .int
abbrev wsX10 : List Cond := u_ws RX1 TX1 8
theorem nmX1 : ∀ a, a < 8 → ∀ b, b < 8 → a ≠ b → (TX1 a).2.1 ≠ (TX1 b).2.1 := by decide +kernel
theorem tyX1_ok : ∀ k, k < 8 → parseFieldDescriptor (TX1 k).2.2.1 = some (tyX1 k) := by decide +kernel
abbrev cX1_init : ByteArray := prog_3_method_1_code
def yX1_init : MethodName := ⟨RX1, "<init>", "()V"⟩
abbrev cX1_exists : ByteArray := prog_3_method_2_code
def yX1_exists : MethodName := ⟨RX1, "exists", "(II)Z"⟩
abbrev cX1_become : ByteArray := prog_3_method_3_code
def yX1_become : MethodName := ⟨RX1, "become", "(II)V"⟩
abbrev cX1_sizeByFamily : ByteArray := prog_3_method_4_code
def yX1_sizeByFamily : MethodName := ⟨RX1, "sizeByFamily", "()I"⟩
abbrev cX1_multiplied : ByteArray := prog_3_method_5_code
def yX1_multiplied : MethodName := ⟨RX1, "multiplied", "(II)I"⟩
abbrev cX1_intoRing : ByteArray := prog_3_method_6_code
def yX1_intoRing : MethodName := ⟨RX1, "intoRing", "(I)I"⟩
abbrev cX1_mirrored : ByteArray := prog_3_method_7_code
def yX1_mirrored : MethodName := ⟨RX1, "mirrored", "(II)I"⟩
abbrev cX1_crossed : ByteArray := prog_3_method_8_code
def yX1_crossed : MethodName := ⟨RX1, "crossed", "(II)I"⟩
abbrev cX1_findInverseAndOrder : ByteArray := prog_3_method_9_code
def yX1_findInverseAndOrder : MethodName := ⟨RX1, "findInverseAndOrder", "(I)V"⟩
abbrev cX1_findConjugates : ByteArray := prog_3_method_10_code
def yX1_findConjugates : MethodName := ⟨RX1, "findConjugates", "()V"⟩
abbrev cX1_findSpans : ByteArray := prog_3_method_11_code
def yX1_findSpans : MethodName := ⟨RX1, "findSpans", "()V"⟩
abbrev cX1_grownToSpan : ByteArray := prog_3_method_12_code
def yX1_grownToSpan : MethodName := ⟨RX1, "grownToSpan", "(I)I"⟩
abbrev cX1_isElement : ByteArray := prog_3_method_13_code
def yX1_isElement : MethodName := ⟨RX1, "isElement", "(I)Z"⟩
abbrev cX1_isSet : ByteArray := prog_3_method_14_code
def yX1_isSet : MethodName := ⟨RX1, "isSet", "(I)Z"⟩
abbrev cX1_whole : ByteArray := prog_3_method_15_code
def yX1_whole : MethodName := ⟨RX1, "whole", "()I"⟩
abbrev cX1_product : ByteArray := prog_3_method_16_code
def yX1_product : MethodName := ⟨RX1, "product", "(II)I"⟩
abbrev cX1_powerOf : ByteArray := prog_3_method_17_code
def yX1_powerOf : MethodName := ⟨RX1, "powerOf", "(II)I"⟩
abbrev cX1_conjugated : ByteArray := prog_3_method_18_code
def yX1_conjugated : MethodName := ⟨RX1, "conjugated", "(II)I"⟩
abbrev cX1_conjugatesOf : ByteArray := prog_3_method_19_code
def yX1_conjugatesOf : MethodName := ⟨RX1, "conjugatesOf", "(I)I"⟩
abbrev cX1_centreSet : ByteArray := prog_3_method_20_code
def yX1_centreSet : MethodName := ⟨RX1, "centreSet", "()I"⟩
abbrev cX1_countOfOrder : ByteArray := prog_3_method_21_code
def yX1_countOfOrder : MethodName := ⟨RX1, "countOfOrder", "(I)I"⟩
abbrev cX1_productOfSets : ByteArray := prog_3_method_22_code
def yX1_productOfSets : MethodName := ⟨RX1, "productOfSets", "(II)I"⟩
abbrev cX1_productWithSet : ByteArray := prog_3_method_23_code
def yX1_productWithSet : MethodName := ⟨RX1, "productWithSet", "(II)I"⟩
abbrev cX1_spanOf : ByteArray := prog_3_method_24_code
def yX1_spanOf : MethodName := ⟨RX1, "spanOf", "(I)I"⟩
abbrev cX1_isSubgroup : ByteArray := prog_3_method_25_code
def yX1_isSubgroup : MethodName := ⟨RX1, "isSubgroup", "(I)Z"⟩
abbrev cX1_isNormal : ByteArray := prog_3_method_26_code
def yX1_isNormal : MethodName := ⟨RX1, "isNormal", "(I)Z"⟩
abbrev cX1_indexOf : ByteArray := prog_3_method_27_code
def yX1_indexOf : MethodName := ⟨RX1, "indexOf", "(I)I"⟩
abbrev cX1_setsBetween : ByteArray := prog_3_method_28_code
def yX1_setsBetween : MethodName := ⟨RX1, "setsBetween", "(II)I"⟩
abbrev cX1_fixedPlaces : ByteArray := prog_3_method_29_code
def yX1_fixedPlaces : MethodName := ⟨RX1, "fixedPlaces", "(II)I"⟩
abbrev cX1_orderBehind : ByteArray := prog_3_method_30_code
def yX1_orderBehind : MethodName := ⟨RX1, "orderBehind", "(II)I"⟩
def RX2 : String := "TurningGroups$Maps"
def TX2 : u_T := fun k => match k with
  | 0 => ("TurningGroups$Maps", "rows", "LTurningGroups$Rows;", true)
  | 1 => ("TurningGroups$Maps", "codes", "[I", true)
  | 2 => ("TurningGroups$Maps", "count", "I", false)
  | _ => ("TurningGroups$Maps", "known", "Z", false)
def tyX2 : Nat → FieldType := fun k => match k with
  | 0 => .object "TurningGroups$Rows"
  | 1 => .array .int
  | 2 => .int
  | _ => .boolean
abbrev wsX20 : List Cond := u_ws RX2 TX2 4
theorem nmX2 : ∀ a, a < 4 → ∀ b, b < 4 → a ≠ b → (TX2 a).2.1 ≠ (TX2 b).2.1 := by decide +kernel
theorem tyX2_ok : ∀ k, k < 4 → parseFieldDescriptor (TX2 k).2.2.1 = some (tyX2 k) := by decide +kernel
abbrev cX2_init : ByteArray := prog_4_method_1_code
def yX2_init : MethodName := ⟨RX2, "<init>", "(LTurningGroups$Rows;I)V"⟩
abbrev cX2_prepare : ByteArray := prog_4_method_2_code
def yX2_prepare : MethodName := ⟨RX2, "prepare", "()V"⟩
abbrev cX2_find : ByteArray := prog_4_method_3_code
def yX2_find : MethodName := ⟨RX2, "find", "()V"⟩
abbrev cX2_has : ByteArray := prog_4_method_4_code
def yX2_has : MethodName := ⟨RX2, "has", "(I)Z"⟩
abbrev cX2_indexOf : ByteArray := prog_4_method_5_code
def yX2_indexOf : MethodName := ⟨RX2, "indexOf", "(I)I"⟩
def RX3 : String := "TurningGroups$Rows"
def TX3 : u_T := fun k => match k with
  | 0 => ("TurningGroups$Rows", "turning", "LTurningGroups$Group;", true)
  | 1 => ("TurningGroups$Rows", "signature", "LTurningGroups$Signature;", true)
  | _ => ("TurningGroups$Rows", "elements", "[I", true)
def tyX3 : Nat → FieldType := fun k => match k with
  | 0 => .object "TurningGroups$Group"
  | 1 => .object "TurningGroups$Signature"
  | _ => .array .int
abbrev wsX30 : List Cond := u_ws RX3 TX3 3
theorem nmX3 : ∀ a, a < 3 → ∀ b, b < 3 → a ≠ b → (TX3 a).2.1 ≠ (TX3 b).2.1 := by decide +kernel
theorem tyX3_ok : ∀ k, k < 3 → parseFieldDescriptor (TX3 k).2.2.1 = some (tyX3 k) := by decide +kernel
abbrev cX3_init : ByteArray := prog_5_method_1_code
def yX3_init : MethodName := ⟨RX3, "<init>", "(LTurningGroups$Group;LTurningGroups$Signature;)V"⟩
abbrev cX3_read : ByteArray := prog_5_method_2_code
def yX3_read : MethodName := ⟨RX3, "read", "(I)Z"⟩
abbrev cX3_code : ByteArray := prog_5_method_3_code
def yX3_code : MethodName := ⟨RX3, "code", "()I"⟩
abbrev cX3_elementOfPeriod : ByteArray := prog_5_method_4_code
def yX3_elementOfPeriod : MethodName := ⟨RX3, "elementOfPeriod", "(I)I"⟩
abbrev cX3_kind : ByteArray := prog_5_method_5_code
def yX3_kind : MethodName := ⟨RX3, "kind", "()I"⟩
abbrev cX3_isWhole : ByteArray := prog_5_method_6_code
def yX3_isWhole : MethodName := ⟨RX3, "isWhole", "()Z"⟩
abbrev cX3_hasOrders : ByteArray := prog_5_method_7_code
def yX3_hasOrders : MethodName := ⟨RX3, "hasOrders", "(I)Z"⟩
abbrev cX3_productOfFirst : ByteArray := prog_5_method_8_code
def yX3_productOfFirst : MethodName := ⟨RX3, "productOfFirst", "(I)I"⟩
abbrev cX3_freeDigits : ByteArray := prog_5_method_9_code
def yX3_freeDigits : MethodName := ⟨RX3, "freeDigits", "()I"⟩
abbrev cX3_startFree : ByteArray := prog_5_method_10_code
def yX3_startFree : MethodName := ⟨RX3, "startFree", "()V"⟩
abbrev cX3_advanceFree : ByteArray := prog_5_method_11_code
def yX3_advanceFree : MethodName := ⟨RX3, "advanceFree", "()Z"⟩
abbrev cX3_completesMap : ByteArray := prog_5_method_12_code
def yX3_completesMap : MethodName := ⟨RX3, "completesMap", "()Z"⟩
abbrev cX3_movesOfNeighbours : ByteArray := prog_5_method_13_code
def yX3_movesOfNeighbours : MethodName := ⟨RX3, "movesOfNeighbours", "()I"⟩
abbrev cX3_moveCount : ByteArray := prog_5_method_14_code
def yX3_moveCount : MethodName := ⟨RX3, "moveCount", "()I"⟩
abbrev cX3_moveAt : ByteArray := prog_5_method_15_code
def yX3_moveAt : MethodName := ⟨RX3, "moveAt", "(I)I"⟩
abbrev cX3_moveBy : ByteArray := prog_5_method_16_code
def yX3_moveBy : MethodName := ⟨RX3, "moveBy", "(I)Z"⟩
abbrev cX3_moveNeighbours : ByteArray := prog_5_method_17_code
def yX3_moveNeighbours : MethodName := ⟨RX3, "moveNeighbours", "(I)V"⟩
abbrev cX3_swapNeighbours : ByteArray := prog_5_method_18_code
def yX3_swapNeighbours : MethodName := ⟨RX3, "swapNeighbours", "(I)V"⟩
abbrev cX3_moveByElement : ByteArray := prog_5_method_19_code
def yX3_moveByElement : MethodName := ⟨RX3, "moveByElement", "(I)V"⟩
def RX4 : String := "TurningGroups$Signature"
def TX4 : u_T := fun k => match k with
  | 0 => ("TurningGroups$Signature", "handles", "I", false)
  | 1 => ("TurningGroups$Signature", "count", "I", false)
  | _ => ("TurningGroups$Signature", "periods", "[I", true)
def tyX4 : Nat → FieldType := fun k => match k with
  | 0 => .int
  | 1 => .int
  | _ => .array .int
abbrev wsX40 : List Cond := u_ws RX4 TX4 3
theorem nmX4 : ∀ a, a < 3 → ∀ b, b < 3 → a ≠ b → (TX4 a).2.1 ≠ (TX4 b).2.1 := by decide +kernel
theorem tyX4_ok : ∀ k, k < 3 → parseFieldDescriptor (TX4 k).2.2.1 = some (tyX4 k) := by decide +kernel
abbrev cX4_init : ByteArray := prog_6_method_1_code
def yX4_init : MethodName := ⟨RX4, "<init>", "()V"⟩
abbrev cX4_digits : ByteArray := prog_6_method_2_code
def yX4_digits : MethodName := ⟨RX4, "digits", "()I"⟩
abbrev cX4_hasPeriod : ByteArray := prog_6_method_3_code
def yX4_hasPeriod : MethodName := ⟨RX4, "hasPeriod", "(I)Z"⟩
abbrev cX4_add : ByteArray := prog_6_method_4_code
def yX4_add : MethodName := ⟨RX4, "add", "(I)V"⟩
abbrev cX4_periodDigits : ByteArray := prog_6_method_5_code
def yX4_periodDigits : MethodName := ⟨RX4, "periodDigits", "()I"⟩
abbrev cX4_take : ByteArray := prog_6_method_6_code
def yX4_take : MethodName := ⟨RX4, "take", "(II)V"⟩
abbrev cX4_genusOver : ByteArray := prog_6_method_7_code
def yX4_genusOver : MethodName := ⟨RX4, "genusOver", "(I)I"⟩
abbrev cX4_start : ByteArray := prog_6_method_8_code
def yX4_start : MethodName := ⟨RX4, "start", "(II)V"⟩
abbrev cX4_advance : ByteArray := prog_6_method_9_code
def yX4_advance : MethodName := ⟨RX4, "advance", "()Z"⟩
def RX5 : String := "TurningGroups"
def TX5 : u_T := fun k => match k with
  | 0 => ("TurningGroups", "turning", "LTurningGroups$Group;", true)
  | 1 => ("TurningGroups", "signature", "LTurningGroups$Signature;", true)
  | 2 => ("TurningGroups", "rows", "LTurningGroups$Rows;", true)
  | 3 => ("TurningGroups", "maps", "LTurningGroups$Maps;", true)
  | 4 => ("TurningGroups", "sorted", "LTurningGroups$Classes;", true)
  | 5 => ("TurningGroups", "tried", "LTurningGroups$Signature;", true)
  | 6 => ("TurningGroups", "triedMaps", "LTurningGroups$Maps;", true)
  | 7 => ("TurningGroups", "shelves", "[I", true)
  | 8 => ("TurningGroups", "imageShelves", "[I", true)
  | _ => ("TurningGroups", "imagePacked", "I", false)
def tyX5 : Nat → FieldType := fun k => match k with
  | 0 => .object "TurningGroups$Group"
  | 1 => .object "TurningGroups$Signature"
  | 2 => .object "TurningGroups$Rows"
  | 3 => .object "TurningGroups$Maps"
  | 4 => .object "TurningGroups$Classes"
  | 5 => .object "TurningGroups$Signature"
  | 6 => .object "TurningGroups$Maps"
  | 7 => .array .int
  | 8 => .array .int
  | _ => .int
abbrev wsX50 : List Cond := u_ws RX5 TX5 10
theorem nmX5 : ∀ a, a < 10 → ∀ b, b < 10 → a ≠ b → (TX5 a).2.1 ≠ (TX5 b).2.1 := by decide +kernel
theorem tyX5_ok : ∀ k, k < 10 → parseFieldDescriptor (TX5 k).2.2.1 = some (tyX5 k) := by decide +kernel
abbrev cX5_init : ByteArray := prog_1_method_1_code
def yX5_init : MethodName := ⟨RX5, "<init>", "()V"⟩
abbrev cX5_group : ByteArray := prog_1_method_2_code
def yX5_group : MethodName := ⟨RX5, "group", "(II)I"⟩
abbrev cX5_of : ByteArray := prog_1_method_3_code
def yX5_of : MethodName := ⟨RX5, "of", "(II)I"⟩
abbrev cX5_times : ByteArray := prog_1_method_4_code
def yX5_times : MethodName := ⟨RX5, "times", "(II)I"⟩
abbrev cX5_power : ByteArray := prog_1_method_5_code
def yX5_power : MethodName := ⟨RX5, "power", "(II)I"⟩
abbrev cX5_conjugate : ByteArray := prog_1_method_6_code
def yX5_conjugate : MethodName := ⟨RX5, "conjugate", "(II)I"⟩
abbrev cX5_span : ByteArray := prog_1_method_7_code
def yX5_span : MethodName := ⟨RX5, "span", "(I)I"⟩
abbrev cX5_subgroup : ByteArray := prog_1_method_8_code
def yX5_subgroup : MethodName := ⟨RX5, "subgroup", "(I)I"⟩
abbrev cX5_normal : ByteArray := prog_1_method_9_code
def yX5_normal : MethodName := ⟨RX5, "normal", "(I)I"⟩
abbrev cX5_centre : ByteArray := prog_1_method_10_code
def yX5_centre : MethodName := ⟨RX5, "centre", "(I)I"⟩
abbrev cX5_handles : ByteArray := prog_1_method_11_code
def yX5_handles : MethodName := ⟨RX5, "handles", "(I)I"⟩
abbrev cX5_period : ByteArray := prog_1_method_12_code
def yX5_period : MethodName := ⟨RX5, "period", "(I)I"⟩
abbrev cX5_drop : ByteArray := prog_1_method_13_code
def yX5_drop : MethodName := ⟨RX5, "drop", "()I"⟩
abbrev cX5_periodOf : ByteArray := prog_1_method_14_code
def yX5_periodOf : MethodName := ⟨RX5, "periodOf", "(I)I"⟩
abbrev cX5_map : ByteArray := prog_1_method_15_code
def yX5_map : MethodName := ⟨RX5, "map", "(I)I"⟩
abbrev cX5_row : ByteArray := prog_1_method_16_code
def yX5_row : MethodName := ⟨RX5, "row", "(I)I"⟩
abbrev cX5_genus : ByteArray := prog_1_method_17_code
def yX5_genus : MethodName := ⟨RX5, "genus", "()I"⟩
abbrev cX5_fixed : ByteArray := prog_1_method_18_code
def yX5_fixed : MethodName := ⟨RX5, "fixed", "(II)I"⟩
abbrev cX5_left : ByteArray := prog_1_method_19_code
def yX5_left : MethodName := ⟨RX5, "left", "(II)I"⟩
abbrev cX5_behind : ByteArray := prog_1_method_20_code
def yX5_behind : MethodName := ⟨RX5, "behind", "(III)I"⟩
abbrev cX5_move : ByteArray := prog_1_method_21_code
def yX5_move : MethodName := ⟨RX5, "move", "(II)I"⟩
abbrev cX5_classes : ByteArray := prog_1_method_22_code
def yX5_classes : MethodName := ⟨RX5, "classes", "(I)I"⟩
abbrev cX5_classOf : ByteArray := prog_1_method_23_code
def yX5_classOf : MethodName := ⟨RX5, "classOf", "(I)I"⟩
abbrev cX5_member : ByteArray := prog_1_method_24_code
def yX5_member : MethodName := ⟨RX5, "member", "(II)I"⟩
abbrev cX5_apart : ByteArray := prog_1_method_25_code
def yX5_apart : MethodName := ⟨RX5, "apart", "(II)I"⟩
abbrev cX5_found : ByteArray := prog_1_method_26_code
def yX5_found : MethodName := ⟨RX5, "found", "(IIII)I"⟩
abbrev cX5_keep : ByteArray := prog_1_method_27_code
def yX5_keep : MethodName := ⟨RX5, "keep", "(I)I"⟩
abbrev cX5_use : ByteArray := prog_1_method_28_code
def yX5_use : MethodName := ⟨RX5, "use", "(I)I"⟩
abbrev cX5_empty : ByteArray := prog_1_method_29_code
def yX5_empty : MethodName := ⟨RX5, "empty", "(I)I"⟩
abbrev cX5_like : ByteArray := prog_1_method_30_code
def yX5_like : MethodName := ⟨RX5, "like", "(I)I"⟩
abbrev cX5_unlike : ByteArray := prog_1_method_31_code
def yX5_unlike : MethodName := ⟨RX5, "unlike", "()I"⟩
abbrev cX5_image : ByteArray := prog_1_method_32_code
def yX5_image : MethodName := ⟨RX5, "image", "()I"⟩
abbrev cX5_back : ByteArray := prog_1_method_33_code
def yX5_back : MethodName := ⟨RX5, "back", "()I"⟩
abbrev cX5_count : ByteArray := prog_1_method_34_code
def yX5_count : MethodName := ⟨RX5, "count", "(I)I"⟩
abbrev cX5_forgetMaps : ByteArray := prog_1_method_35_code
def yX5_forgetMaps : MethodName := ⟨RX5, "forgetMaps", "()V"⟩
abbrev cX5_readsMap : ByteArray := prog_1_method_36_code
def yX5_readsMap : MethodName := ⟨RX5, "readsMap", "(I)Z"⟩
abbrev cX5_isShelf : ByteArray := prog_1_method_37_code
def yX5_isShelf : MethodName := ⟨RX5, "isShelf", "(I)Z"⟩
abbrev cX5_shelvesInUse : ByteArray := prog_1_method_38_code
def yX5_shelvesInUse : MethodName := ⟨RX5, "shelvesInUse", "()I"⟩
abbrev cX5_firstLike : ByteArray := prog_1_method_39_code
def yX5_firstLike : MethodName := ⟨RX5, "firstLike", "(I)I"⟩
abbrev cX5_packed : ByteArray := prog_1_method_40_code
def yX5_packed : MethodName := ⟨RX5, "packed", "()I"⟩
abbrev cX5_unpack : ByteArray := prog_1_method_41_code
def yX5_unpack : MethodName := ⟨RX5, "unpack", "(I)V"⟩
def RX6 : String := "TurningGroupsModel"
def TX6 : u_T := fun k => match k with
  | 0 => ("TurningGroupsModel", "family", "I", false)
  | 1 => ("TurningGroupsModel", "n", "I", false)
  | 2 => ("TurningGroupsModel", "size", "I", false)
  | 3 => ("TurningGroupsModel", "table", "[I", true)
  | 4 => ("TurningGroupsModel", "hands", "I", false)
  | 5 => ("TurningGroupsModel", "periods", "I", false)
  | 6 => ("TurningGroupsModel", "period", "[I", true)
  | 7 => ("TurningGroupsModel", "areLaid", "Z", false)
  | 8 => ("TurningGroupsModel", "maps", "I", false)
  | 9 => ("TurningGroupsModel", "map", "[I", true)
  | 10 => ("TurningGroupsModel", "classIn", "[I", true)
  | 11 => ("TurningGroupsModel", "far", "[I", true)
  | 12 => ("TurningGroupsModel", "queue", "[I", true)
  | 13 => ("TurningGroupsModel", "placeIn", "[I", true)
  | 14 => ("TurningGroupsModel", "classMany", "I", false)
  | 15 => ("TurningGroupsModel", "shelfFamily", "[I", true)
  | 16 => ("TurningGroupsModel", "shelfN", "[I", true)
  | 17 => ("TurningGroupsModel", "shelfHands", "[I", true)
  | 18 => ("TurningGroupsModel", "shelfPeriods", "[I", true)
  | 19 => ("TurningGroupsModel", "shelfPeriod", "[I", true)
  | 20 => ("TurningGroupsModel", "hasImage", "Z", false)
  | 21 => ("TurningGroupsModel", "family1", "I", false)
  | 22 => ("TurningGroupsModel", "n1", "I", false)
  | 23 => ("TurningGroupsModel", "hands1", "I", false)
  | 24 => ("TurningGroupsModel", "periods1", "I", false)
  | 25 => ("TurningGroupsModel", "period1", "[I", true)
  | 26 => ("TurningGroupsModel", "shelfFamily1", "[I", true)
  | 27 => ("TurningGroupsModel", "shelfN1", "[I", true)
  | 28 => ("TurningGroupsModel", "shelfHands1", "[I", true)
  | 29 => ("TurningGroupsModel", "shelfPeriods1", "[I", true)
  | 30 => ("TurningGroupsModel", "shelfPeriod1", "[I", true)
  | 31 => ("TurningGroupsModel", "digit", "[I", true)
  | 32 => ("TurningGroupsModel", "foundMany", "I", false)
  | _ => ("TurningGroupsModel", "foundAt", "I", false)
def tyX6 : Nat → FieldType := fun k => match k with
  | 0 => .int
  | 1 => .int
  | 2 => .int
  | 3 => .array .int
  | 4 => .int
  | 5 => .int
  | 6 => .array .int
  | 7 => .boolean
  | 8 => .int
  | 9 => .array .int
  | 10 => .array .int
  | 11 => .array .int
  | 12 => .array .int
  | 13 => .array .int
  | 14 => .int
  | 15 => .array .int
  | 16 => .array .int
  | 17 => .array .int
  | 18 => .array .int
  | 19 => .array .int
  | 20 => .boolean
  | 21 => .int
  | 22 => .int
  | 23 => .int
  | 24 => .int
  | 25 => .array .int
  | 26 => .array .int
  | 27 => .array .int
  | 28 => .array .int
  | 29 => .array .int
  | 30 => .array .int
  | 31 => .array .int
  | 32 => .int
  | _ => .int
abbrev wsX60 : List Cond := u_ws RX6 TX6 34
theorem nmX6 : ∀ a, a < 34 → ∀ b, b < 34 → a ≠ b → (TX6 a).2.1 ≠ (TX6 b).2.1 := by decide +kernel
theorem tyX6_ok : ∀ k, k < 34 → parseFieldDescriptor (TX6 k).2.2.1 = some (tyX6 k) := by decide +kernel
abbrev cX6_in : ByteArray := prog_8_method_1_code
def yX6_in : MethodName := ⟨RX6, "in", "(III)Z"⟩
abbrev cX6_sizeBy : ByteArray := prog_8_method_2_code
def yX6_sizeBy : MethodName := ⟨RX6, "sizeBy", "(II)I"⟩
abbrev cX6_mirrored : ByteArray := prog_8_method_3_code
def yX6_mirrored : MethodName := ⟨RX6, "mirrored", "(II)I"⟩
abbrev cX6_crossed : ByteArray := prog_8_method_4_code
def yX6_crossed : MethodName := ⟨RX6, "crossed", "(II)I"⟩
abbrev cX6_layTable : ByteArray := prog_8_method_5_code
def yX6_layTable : MethodName := ⟨RX6, "layTable", "()V"⟩
abbrev cX6_product : ByteArray := prog_8_method_6_code
def yX6_product : MethodName := ⟨RX6, "product", "(II)I"⟩
abbrev cX6_inverse : ByteArray := prog_8_method_7_code
def yX6_inverse : MethodName := ⟨RX6, "inverse", "(I)I"⟩
abbrev cX6_orderOf : ByteArray := prog_8_method_8_code
def yX6_orderOf : MethodName := ⟨RX6, "orderOf", "(I)I"⟩
abbrev cX6_turned : ByteArray := prog_8_method_9_code
def yX6_turned : MethodName := ⟨RX6, "turned", "(II)I"⟩
abbrev cX6_spanOf : ByteArray := prog_8_method_10_code
def yX6_spanOf : MethodName := ⟨RX6, "spanOf", "(I)I"⟩
abbrev cX6_isSet : ByteArray := prog_8_method_11_code
def yX6_isSet : MethodName := ⟨RX6, "isSet", "(I)Z"⟩
abbrev cX6_isSubgroup : ByteArray := prog_8_method_12_code
def yX6_isSubgroup : MethodName := ⟨RX6, "isSubgroup", "(I)Z"⟩
abbrev cX6_isNormal : ByteArray := prog_8_method_13_code
def yX6_isNormal : MethodName := ⟨RX6, "isNormal", "(I)Z"⟩
abbrev cX6_ones : ByteArray := prog_8_method_14_code
def yX6_ones : MethodName := ⟨RX6, "ones", "(I)I"⟩
abbrev cX6_init : ByteArray := prog_8_method_15_code
def yX6_init : MethodName := ⟨RX6, "<init>", "()V"⟩
abbrev cX6_group : ByteArray := prog_8_method_16_code
def yX6_group : MethodName := ⟨RX6, "group", "(II)I"⟩
abbrev cX6_isElement : ByteArray := prog_8_method_17_code
def yX6_isElement : MethodName := ⟨RX6, "isElement", "(I)Z"⟩
abbrev cX6_of : ByteArray := prog_8_method_18_code
def yX6_of : MethodName := ⟨RX6, "of", "(II)I"⟩
abbrev cX6_times : ByteArray := prog_8_method_19_code
def yX6_times : MethodName := ⟨RX6, "times", "(II)I"⟩
abbrev cX6_power : ByteArray := prog_8_method_20_code
def yX6_power : MethodName := ⟨RX6, "power", "(II)I"⟩
abbrev cX6_conjugate : ByteArray := prog_8_method_21_code
def yX6_conjugate : MethodName := ⟨RX6, "conjugate", "(II)I"⟩
abbrev cX6_span : ByteArray := prog_8_method_22_code
def yX6_span : MethodName := ⟨RX6, "span", "(I)I"⟩
abbrev cX6_subgroup : ByteArray := prog_8_method_23_code
def yX6_subgroup : MethodName := ⟨RX6, "subgroup", "(I)I"⟩
abbrev cX6_normal : ByteArray := prog_8_method_24_code
def yX6_normal : MethodName := ⟨RX6, "normal", "(I)I"⟩
abbrev cX6_centre : ByteArray := prog_8_method_25_code
def yX6_centre : MethodName := ⟨RX6, "centre", "(I)I"⟩
abbrev cX6_handles : ByteArray := prog_8_method_26_code
def yX6_handles : MethodName := ⟨RX6, "handles", "(I)I"⟩
abbrev cX6_period : ByteArray := prog_8_method_27_code
def yX6_period : MethodName := ⟨RX6, "period", "(I)I"⟩
abbrev cX6_drop : ByteArray := prog_8_method_28_code
def yX6_drop : MethodName := ⟨RX6, "drop", "()I"⟩
abbrev cX6_periodOf : ByteArray := prog_8_method_29_code
def yX6_periodOf : MethodName := ⟨RX6, "periodOf", "(I)I"⟩
abbrev cX6_length : ByteArray := prog_8_method_30_code
def yX6_length : MethodName := ⟨RX6, "length", "()I"⟩
abbrev cX6_tens : ByteArray := prog_8_method_31_code
def yX6_tens : MethodName := ⟨RX6, "tens", "(I)I"⟩
abbrev cX6_read : ByteArray := prog_8_method_32_code
def yX6_read : MethodName := ⟨RX6, "read", "(I)V"⟩
abbrev cX6_written : ByteArray := prog_8_method_33_code
def yX6_written : MethodName := ⟨RX6, "written", "()I"⟩
abbrev cX6_whatIs : ByteArray := prog_8_method_34_code
def yX6_whatIs : MethodName := ⟨RX6, "whatIs", "()I"⟩
abbrev cX6_codeIs : ByteArray := prog_8_method_35_code
def yX6_codeIs : MethodName := ⟨RX6, "codeIs", "(I)I"⟩
abbrev cX6_lay : ByteArray := prog_8_method_36_code
def yX6_lay : MethodName := ⟨RX6, "lay", "()V"⟩
abbrev cX6_placeOf : ByteArray := prog_8_method_37_code
def yX6_placeOf : MethodName := ⟨RX6, "placeOf", "(I)I"⟩
abbrev cX6_swap : ByteArray := prog_8_method_38_code
def yX6_swap : MethodName := ⟨RX6, "swap", "(I)V"⟩
abbrev cX6_isMove : ByteArray := prog_8_method_39_code
def yX6_isMove : MethodName := ⟨RX6, "isMove", "(I)Z"⟩
abbrev cX6_moved : ByteArray := prog_8_method_40_code
def yX6_moved : MethodName := ⟨RX6, "moved", "(II)I"⟩
abbrev cX6_spread : ByteArray := prog_8_method_41_code
def yX6_spread : MethodName := ⟨RX6, "spread", "(I)V"⟩
abbrev cX6_layClasses : ByteArray := prog_8_method_42_code
def yX6_layClasses : MethodName := ⟨RX6, "layClasses", "()V"⟩
abbrev cX6_classSize : ByteArray := prog_8_method_43_code
def yX6_classSize : MethodName := ⟨RX6, "classSize", "(I)I"⟩
abbrev cX6_map : ByteArray := prog_8_method_44_code
def yX6_map : MethodName := ⟨RX6, "map", "(I)I"⟩
abbrev cX6_row : ByteArray := prog_8_method_45_code
def yX6_row : MethodName := ⟨RX6, "row", "(I)I"⟩
abbrev cX6_genusOf : ByteArray := prog_8_method_46_code
def yX6_genusOf : MethodName := ⟨RX6, "genusOf", "()I"⟩
abbrev cX6_genus : ByteArray := prog_8_method_47_code
def yX6_genus : MethodName := ⟨RX6, "genus", "()I"⟩
abbrev cX6_leftOf : ByteArray := prog_8_method_48_code
def yX6_leftOf : MethodName := ⟨RX6, "leftOf", "(II)I"⟩
abbrev cX6_fixed : ByteArray := prog_8_method_49_code
def yX6_fixed : MethodName := ⟨RX6, "fixed", "(II)I"⟩
abbrev cX6_left : ByteArray := prog_8_method_50_code
def yX6_left : MethodName := ⟨RX6, "left", "(II)I"⟩
abbrev cX6_behind : ByteArray := prog_8_method_51_code
def yX6_behind : MethodName := ⟨RX6, "behind", "(III)I"⟩
abbrev cX6_move : ByteArray := prog_8_method_52_code
def yX6_move : MethodName := ⟨RX6, "move", "(II)I"⟩
abbrev cX6_classes : ByteArray := prog_8_method_53_code
def yX6_classes : MethodName := ⟨RX6, "classes", "(I)I"⟩
abbrev cX6_classOf : ByteArray := prog_8_method_54_code
def yX6_classOf : MethodName := ⟨RX6, "classOf", "(I)I"⟩
abbrev cX6_member : ByteArray := prog_8_method_55_code
def yX6_member : MethodName := ⟨RX6, "member", "(II)I"⟩
abbrev cX6_apart : ByteArray := prog_8_method_56_code
def yX6_apart : MethodName := ⟨RX6, "apart", "(II)I"⟩
abbrev cX6_hasMaps : ByteArray := prog_8_method_57_code
def yX6_hasMaps : MethodName := ⟨RX6, "hasMaps", "()Z"⟩
abbrev cX6_divides : ByteArray := prog_8_method_58_code
def yX6_divides : MethodName := ⟨RX6, "divides", "()Z"⟩
abbrev cX6_look : ByteArray := prog_8_method_59_code
def yX6_look : MethodName := ⟨RX6, "look", "(II)V"⟩
abbrev cX6_goesOn : ByteArray := prog_8_method_60_code
def yX6_goesOn : MethodName := ⟨RX6, "goesOn", "()Z"⟩
abbrev cX6_find : ByteArray := prog_8_method_61_code
def yX6_find : MethodName := ⟨RX6, "find", "(III)V"⟩
abbrev cX6_found : ByteArray := prog_8_method_62_code
def yX6_found : MethodName := ⟨RX6, "found", "(IIII)I"⟩
abbrev cX6_shelvesMany : ByteArray := prog_8_method_63_code
def yX6_shelvesMany : MethodName := ⟨RX6, "shelvesMany", "()I"⟩
abbrev cX6_keep : ByteArray := prog_8_method_64_code
def yX6_keep : MethodName := ⟨RX6, "keep", "(I)I"⟩
abbrev cX6_use : ByteArray := prog_8_method_65_code
def yX6_use : MethodName := ⟨RX6, "use", "(I)I"⟩
abbrev cX6_empty : ByteArray := prog_8_method_66_code
def yX6_empty : MethodName := ⟨RX6, "empty", "(I)I"⟩
abbrev cX6_areLike : ByteArray := prog_8_method_67_code
def yX6_areLike : MethodName := ⟨RX6, "areLike", "(II)Z"⟩
abbrev cX6_firstLike : ByteArray := prog_8_method_68_code
def yX6_firstLike : MethodName := ⟨RX6, "firstLike", "(I)I"⟩
abbrev cX6_like : ByteArray := prog_8_method_69_code
def yX6_like : MethodName := ⟨RX6, "like", "(I)I"⟩
abbrev cX6_unlike : ByteArray := prog_8_method_70_code
def yX6_unlike : MethodName := ⟨RX6, "unlike", "()I"⟩
abbrev cX6_image : ByteArray := prog_8_method_71_code
def yX6_image : MethodName := ⟨RX6, "image", "()I"⟩
abbrev cX6_back : ByteArray := prog_8_method_72_code
def yX6_back : MethodName := ⟨RX6, "back", "()I"⟩
abbrev cX6_count : ByteArray := prog_8_method_73_code
def yX6_count : MethodName := ⟨RX6, "count", "(I)I"⟩
def RJ6 : String := "java/lang/Integer"
def TJ6 : u_T := fun k => match k with
  | _ => ("", "", "", false)
def tyJ6 : Nat → FieldType := fun k => match k with
  | _ => .int
abbrev wsJ60 : List Cond := u_ws RJ6 TJ6 0
theorem nmJ6 : ∀ a, a < 0 → ∀ b, b < 0 → a ≠ b → (TJ6 a).2.1 ≠ (TJ6 b).2.1 := by decide +kernel
theorem tyJ6_ok : ∀ k, k < 0 → parseFieldDescriptor (TJ6 k).2.2.1 = some (tyJ6 k) := by decide +kernel
abbrev cJ6_bitCount_0f7a4 : ByteArray := prog_9_method_49_code
def yJ6_bitCount_0f7a4 : MethodName := ⟨RJ6, "bitCount", "(I)I"⟩
def RJ9 : String := "java/lang/Math"
def TJ9 : u_T := fun k => match k with
  | _ => ("", "", "", false)
def tyJ9 : Nat → FieldType := fun k => match k with
  | _ => .int
abbrev wsJ90 : List Cond := u_ws RJ9 TJ9 0
theorem nmJ9 : ∀ a, a < 0 → ∀ b, b < 0 → a ≠ b → (TJ9 a).2.1 ≠ (TJ9 b).2.1 := by decide +kernel
theorem tyJ9_ok : ∀ k, k < 0 → parseFieldDescriptor (TJ9 k).2.2.1 = some (tyJ9 k) := by decide +kernel
abbrev cJ9_max_7cf53 : ByteArray := prog_10_method_65_code
def yJ9_max_7cf53 : MethodName := ⟨RJ9, "max", "(II)I"⟩
abbrev cJ9_min_7cf53 : ByteArray := prog_10_method_69_code
def yJ9_min_7cf53 : MethodName := ⟨RJ9, "min", "(II)I"⟩
def RJ10 : String := "java/lang/System"
def TJ10 : u_T := fun k => match k with
  | _ => ("", "", "", false)
def tyJ10 : Nat → FieldType := fun k => match k with
  | _ => .int
abbrev wsJ100 : List Cond := u_ws RJ10 TJ10 0
theorem nmJ10 : ∀ a, a < 0 → ∀ b, b < 0 → a ≠ b → (TJ10 a).2.1 ≠ (TJ10 b).2.1 := by decide +kernel
theorem tyJ10_ok : ∀ k, k < 0 → parseFieldDescriptor (TJ10 k).2.2.1 = some (tyJ10 k) := by decide +kernel
def RJ7 : String := "java/util/Arrays"
def TJ7 : u_T := fun k => match k with
  | _ => ("", "", "", false)
def tyJ7 : Nat → FieldType := fun k => match k with
  | _ => .int
abbrev wsJ70 : List Cond := u_ws RJ7 TJ7 0
theorem nmJ7 : ∀ a, a < 0 → ∀ b, b < 0 → a ≠ b → (TJ7 a).2.1 ≠ (TJ7 b).2.1 := by decide +kernel
theorem tyJ7_ok : ∀ k, k < 0 → parseFieldDescriptor (TJ7 k).2.2.1 = some (tyJ7 k) := by decide +kernel
abbrev cJ7_fill_53178 : ByteArray := prog_12_method_103_code
def yJ7_fill_53178 : MethodName := ⟨RJ7, "fill", "([II)V"⟩
def RL : String := "TurningGroupsLaw"
abbrev cL_law : ByteArray := code
def yL_law : MethodName := ⟨RL, "law", "([I)Z"⟩
def wsL_law_r1 : List Cond := [Cond.classLink RL 7 RX5, Cond.instantiable RX5 10, Cond.initialized RX5, Cond.classLink RL 10 RX6, Cond.instantiable RX6 34, Cond.initialized RX6, Cond.methodLink RL 9 yX5_init, Cond.instanceMethod yX5_init, Cond.code yX5_init cX5_init 1 none, Cond.methodLink RX5 1 objectInit, Cond.instanceMethod objectInit, Cond.code objectInit ⟨#[0xb1]⟩ 1 none, Cond.classLink RX5 7 RX1, Cond.instantiable RX1 8, Cond.initialized RX1, Cond.fieldLink RX5 10 "TurningGroups" "turning" "LTurningGroups$Group;", Cond.classLink RX5 16 RX4, Cond.instantiable RX4 3, Cond.initialized RX4, Cond.fieldLink RX5 19 "TurningGroups" "signature" "LTurningGroups$Signature;", Cond.classLink RX5 23 RX3, Cond.instantiable RX3 3, Cond.initialized RX3, Cond.fieldLink RX5 28 "TurningGroups" "rows" "LTurningGroups$Rows;"]
def wsL_law_r2 : List Cond := [Cond.classLink RX5 32 RX2, Cond.instantiable RX2 4, Cond.initialized RX2, Cond.fieldLink RX5 37 "TurningGroups" "maps" "LTurningGroups$Maps;", Cond.classLink RX5 41 RX0, Cond.instantiable RX0 10, Cond.initialized RX0, Cond.fieldLink RX5 46 "TurningGroups" "sorted" "LTurningGroups$Classes;", Cond.fieldLink RX5 50 "TurningGroups" "tried" "LTurningGroups$Signature;", Cond.fieldLink RX5 53 "TurningGroups" "triedMaps" "LTurningGroups$Maps;", Cond.arrayClass .int, Cond.fieldLink RX5 56 "TurningGroups" "shelves" "[I", Cond.fieldLink RX5 60 "TurningGroups" "imageShelves" "[I", Cond.fieldLink RX5 63 "TurningGroups" "imagePacked" "I", Cond.methodLink RX5 9 yX1_init, Cond.instanceMethod yX1_init, Cond.code yX1_init cX1_init 1 none, Cond.methodLink RX1 3 objectInit, Cond.fieldLink RX1 9 "TurningGroups$Group" "products" "[I", Cond.fieldLink RX1 15 "TurningGroups$Group" "inverses" "[I", Cond.fieldLink RX1 18 "TurningGroups$Group" "orders" "[I", Cond.fieldLink RX1 21 "TurningGroups$Group" "conjugates" "[I", Cond.fieldLink RX1 24 "TurningGroups$Group" "spans" "[I", Cond.methodLink RX1 27 yX1_become]
def wsL_law_r3 : List Cond := [Cond.instanceMethod yX1_become, Cond.selects RX1 yX1_become yX1_become, Cond.code yX1_become cX1_become 5 none, Cond.fieldLink RX1 34 "TurningGroups$Group" "family" "I", Cond.fieldLink RX1 38 "TurningGroups$Group" "n" "I", Cond.fieldLink RX1 45 "TurningGroups$Group" "size" "I", Cond.methodLink RX1 41 yX1_sizeByFamily, Cond.instanceMethod yX1_sizeByFamily, Cond.selects RX1 yX1_sizeByFamily yX1_sizeByFamily, Cond.code yX1_sizeByFamily cX1_sizeByFamily 1 (some .int), Cond.methodLink RX1 48 yX1_multiplied, Cond.instanceMethod yX1_multiplied, Cond.selects RX1 yX1_multiplied yX1_multiplied, Cond.code yX1_multiplied cX1_multiplied 3 (some .int), Cond.methodLink RX1 62 yX1_intoRing, Cond.instanceMethod yX1_intoRing, Cond.selects RX1 yX1_intoRing yX1_intoRing, Cond.code yX1_intoRing cX1_intoRing 2 (some .int), Cond.methodLink RX1 66 yX1_mirrored, Cond.instanceMethod yX1_mirrored, Cond.selects RX1 yX1_mirrored yX1_mirrored, Cond.code yX1_mirrored cX1_mirrored 8 (some .int), Cond.methodLink RX1 69 yX1_crossed, Cond.instanceMethod yX1_crossed]
def wsL_law_r4 : List Cond := [Cond.selects RX1 yX1_crossed yX1_crossed, Cond.code yX1_crossed cX1_crossed 8 (some .int), Cond.methodLink RX1 52 yX1_findInverseAndOrder, Cond.instanceMethod yX1_findInverseAndOrder, Cond.selects RX1 yX1_findInverseAndOrder yX1_findInverseAndOrder, Cond.code yX1_findInverseAndOrder cX1_findInverseAndOrder 4 none, Cond.methodLink RX1 72 yX1_product, Cond.instanceMethod yX1_product, Cond.selects RX1 yX1_product yX1_product, Cond.code yX1_product cX1_product 3 (some .int), Cond.methodLink RX1 56 yX1_findConjugates, Cond.instanceMethod yX1_findConjugates, Cond.selects RX1 yX1_findConjugates yX1_findConjugates, Cond.code yX1_findConjugates cX1_findConjugates 3 none, Cond.methodLink RX1 59 yX1_findSpans, Cond.instanceMethod yX1_findSpans, Cond.selects RX1 yX1_findSpans yX1_findSpans, Cond.code yX1_findSpans cX1_findSpans 5 none, Cond.methodLink RX1 75 yX1_grownToSpan, Cond.instanceMethod yX1_grownToSpan, Cond.selects RX1 yX1_grownToSpan yX1_grownToSpan, Cond.code yX1_grownToSpan cX1_grownToSpan 5 (some .int), Cond.methodLink RX1 78 yX1_productOfSets, Cond.instanceMethod yX1_productOfSets]
def wsL_law_r5 : List Cond := [Cond.selects RX1 yX1_productOfSets yX1_productOfSets, Cond.code yX1_productOfSets cX1_productOfSets 5 (some .int), Cond.methodLink RX1 90 yX1_productWithSet, Cond.instanceMethod yX1_productWithSet, Cond.selects RX1 yX1_productWithSet yX1_productWithSet, Cond.code yX1_productWithSet cX1_productWithSet 5 (some .int), Cond.instanceMethod yX4_init, Cond.code yX4_init cX4_init 1 none, Cond.methodLink RX4 3 objectInit, Cond.fieldLink RX4 9 "TurningGroups$Signature" "periods" "[I", Cond.methodLink RX5 25 yX3_init, Cond.instanceMethod yX3_init, Cond.code yX3_init cX3_init 3 none, Cond.methodLink RX3 3 objectInit, Cond.fieldLink RX3 9 "TurningGroups$Rows" "elements" "[I", Cond.fieldLink RX3 15 "TurningGroups$Rows" "turning" "LTurningGroups$Group;", Cond.fieldLink RX3 19 "TurningGroups$Rows" "signature" "LTurningGroups$Signature;", Cond.methodLink RX5 34 yX2_init, Cond.instanceMethod yX2_init, Cond.code yX2_init cX2_init 3 none, Cond.methodLink RX2 3 objectInit, Cond.fieldLink RX2 9 "TurningGroups$Maps" "rows" "LTurningGroups$Rows;", Cond.methodLink RX2 15 Lib.Math.max.name, Cond.static Lib.Math.max.name]
def wsL_law_r6 : List Cond := [Cond.initialized "java/lang/Math", Cond.code Lib.Math.max.name Lib.Math.max.code 2 (some .int), Cond.fieldLink RX2 21 "TurningGroups$Maps" "codes" "[I", Cond.methodLink RX5 43 yX0_init, Cond.instanceMethod yX0_init, Cond.code yX0_init cX0_init 2 none, Cond.methodLink RX0 3 objectInit, Cond.fieldLink RX0 9 "TurningGroups$Classes" "steps" "[I", Cond.fieldLink RX0 15 "TurningGroups$Classes" "numbers" "[I", Cond.fieldLink RX0 18 "TurningGroups$Classes" "sizes" "[I", Cond.fieldLink RX0 21 "TurningGroups$Classes" "queue" "[I", Cond.fieldLink RX0 24 "TurningGroups$Classes" "distances" "[I", Cond.fieldLink RX0 27 "TurningGroups$Classes" "maps" "LTurningGroups$Maps;", Cond.fieldLink RX0 37 "TurningGroups$Classes" "rows" "LTurningGroups$Rows;", Cond.methodLink RL 12 yX6_init, Cond.instanceMethod yX6_init, Cond.code yX6_init cX6_init 1 none, Cond.methodLink RX6 52 objectInit, Cond.fieldLink RX6 1 "TurningGroupsModel" "n" "I", Cond.fieldLink RX6 14 "TurningGroupsModel" "size" "I", Cond.fieldLink RX6 23 "TurningGroupsModel" "table" "[I", Cond.fieldLink RX6 58 "TurningGroupsModel" "period" "[I", Cond.fieldLink RX6 61 "TurningGroupsModel" "map" "[I", Cond.fieldLink RX6 64 "TurningGroupsModel" "classIn" "[I"]
def wsL_law_r7 : List Cond := [Cond.fieldLink RX6 67 "TurningGroupsModel" "far" "[I", Cond.fieldLink RX6 70 "TurningGroupsModel" "queue" "[I", Cond.fieldLink RX6 73 "TurningGroupsModel" "placeIn" "[I", Cond.fieldLink RX6 76 "TurningGroupsModel" "shelfFamily" "[I", Cond.fieldLink RX6 79 "TurningGroupsModel" "shelfN" "[I", Cond.fieldLink RX6 82 "TurningGroupsModel" "shelfHands" "[I", Cond.fieldLink RX6 85 "TurningGroupsModel" "shelfPeriods" "[I", Cond.fieldLink RX6 88 "TurningGroupsModel" "shelfPeriod" "[I", Cond.fieldLink RX6 91 "TurningGroupsModel" "period1" "[I", Cond.fieldLink RX6 94 "TurningGroupsModel" "shelfFamily1" "[I", Cond.fieldLink RX6 97 "TurningGroupsModel" "shelfN1" "[I", Cond.fieldLink RX6 100 "TurningGroupsModel" "shelfHands1" "[I", Cond.fieldLink RX6 103 "TurningGroupsModel" "shelfPeriods1" "[I", Cond.fieldLink RX6 106 "TurningGroupsModel" "shelfPeriod1" "[I", Cond.fieldLink RX6 109 "TurningGroupsModel" "digit" "[I", Cond.methodLink RX6 112 yX6_layTable, Cond.instanceMethod yX6_layTable, Cond.selects RX6 yX6_layTable yX6_layTable, Cond.code yX6_layTable cX6_layTable 4 none, Cond.fieldLink RX6 7 "TurningGroupsModel" "family" "I", Cond.fieldLink RX6 27 "TurningGroupsModel" "areLaid" "Z", Cond.methodLink RX6 10 yX6_sizeBy, Cond.static yX6_sizeBy, Cond.code yX6_sizeBy cX6_sizeBy 2 (some .int)]
def wsL_law_r8 : List Cond := [Cond.methodLink RX6 17 yX6_mirrored, Cond.instanceMethod yX6_mirrored, Cond.selects RX6 yX6_mirrored yX6_mirrored, Cond.code yX6_mirrored cX6_mirrored 4 (some .int), Cond.methodLink RX6 20 yX6_crossed, Cond.static yX6_crossed, Cond.code yX6_crossed cX6_crossed 6 (some .int), Cond.methodLink RL 13 yX5_group, Cond.instanceMethod yX5_group, Cond.selects RX5 yX5_group yX5_group, Cond.code yX5_group cX5_group 3 (some .int), Cond.methodLink RX5 67 yX1_exists, Cond.static yX1_exists, Cond.code yX1_exists cX1_exists 2 (some .boolean), Cond.fieldLink RX1 31 "TurningGroups$Group" "MOST_N" "[I", Cond.methodLink RX5 71 yX1_become, Cond.methodLink RX5 75 yX5_forgetMaps, Cond.instanceMethod yX5_forgetMaps, Cond.selects RX5 yX5_forgetMaps yX5_forgetMaps, Cond.code yX5_forgetMaps cX5_forgetMaps 1 none, Cond.methodLink RL 17 yX6_group, Cond.instanceMethod yX6_group, Cond.selects RX6 yX6_group yX6_group, Cond.code yX6_group cX6_group 4 (some .int)]
def wsL_law_r9 : List Cond := [Cond.methodLink RX6 38 yX6_in, Cond.static yX6_in, Cond.code yX6_in cX6_in 3 (some .boolean), Cond.methodLink RL 18 yX5_of, Cond.instanceMethod yX5_of, Cond.selects RX5 yX5_of yX5_of, Cond.code yX5_of cX5_of 3 (some .int), Cond.methodLink RX5 81 yX1_isElement, Cond.instanceMethod yX1_isElement, Cond.selects RX1 yX1_isElement yX1_isElement, Cond.code yX1_isElement cX1_isElement 2 (some .boolean), Cond.methodLink RX5 91 yX1_conjugatesOf, Cond.instanceMethod yX1_conjugatesOf, Cond.selects RX1 yX1_conjugatesOf yX1_conjugatesOf, Cond.code yX1_conjugatesOf cX1_conjugatesOf 4 (some .int), Cond.methodLink RX1 84 yX1_conjugated, Cond.instanceMethod yX1_conjugated, Cond.selects RX1 yX1_conjugated yX1_conjugated, Cond.code yX1_conjugated cX1_conjugated 3 (some .int), Cond.methodLink RX5 95 yJ6_bitCount_0f7a4, Cond.static yJ6_bitCount_0f7a4, Cond.initialized RJ6, Cond.code yJ6_bitCount_0f7a4 cJ6_bitCount_0f7a4 1 (some .int), Cond.constant RJ6 265 (1431655765)]
def wsL_law_r10 : List Cond := [Cond.constant RJ6 266 (858993459), Cond.constant RJ6 267 (252645135), Cond.methodLink RL 21 yX6_of, Cond.instanceMethod yX6_of, Cond.selects RX6 yX6_of yX6_of, Cond.code yX6_of cX6_of 5 (some .int), Cond.methodLink RX6 115 yX6_isElement, Cond.instanceMethod yX6_isElement, Cond.selects RX6 yX6_isElement yX6_isElement, Cond.code yX6_isElement cX6_isElement 2 (some .boolean), Cond.methodLink RX6 118 yX6_orderOf, Cond.instanceMethod yX6_orderOf, Cond.selects RX6 yX6_orderOf yX6_orderOf, Cond.code yX6_orderOf cX6_orderOf 4 (some .int), Cond.methodLink RX6 31 yX6_product, Cond.instanceMethod yX6_product, Cond.selects RX6 yX6_product yX6_product, Cond.code yX6_product cX6_product 3 (some .int), Cond.methodLink RX6 34 yX6_inverse, Cond.instanceMethod yX6_inverse, Cond.selects RX6 yX6_inverse yX6_inverse, Cond.code yX6_inverse cX6_inverse 3 (some .int), Cond.methodLink RX6 49 yX6_turned, Cond.instanceMethod yX6_turned]
def wsL_law_r11 : List Cond := [Cond.selects RX6 yX6_turned yX6_turned, Cond.code yX6_turned cX6_turned 3 (some .int), Cond.methodLink RX6 121 yX6_ones, Cond.static yX6_ones, Cond.code yX6_ones cX6_ones 3 (some .int), Cond.methodLink RL 22 yX5_times, Cond.instanceMethod yX5_times, Cond.selects RX5 yX5_times yX5_times, Cond.code yX5_times cX5_times 3 (some .int), Cond.methodLink RX5 100 yX1_product, Cond.methodLink RL 25 yX6_times, Cond.instanceMethod yX6_times, Cond.selects RX6 yX6_times yX6_times, Cond.code yX6_times cX6_times 3 (some .int), Cond.methodLink RL 26 yX5_power, Cond.instanceMethod yX5_power, Cond.selects RX5 yX5_power yX5_power, Cond.code yX5_power cX5_power 3 (some .int), Cond.methodLink RX5 104 yX1_powerOf, Cond.instanceMethod yX1_powerOf, Cond.selects RX1 yX1_powerOf yX1_powerOf, Cond.code yX1_powerOf cX1_powerOf 5 (some .int), Cond.methodLink RL 29 yX6_power, Cond.instanceMethod yX6_power]
def wsL_law_r12 : List Cond := [Cond.selects RX6 yX6_power yX6_power, Cond.code yX6_power cX6_power 5 (some .int), Cond.methodLink RL 30 yX5_conjugate, Cond.instanceMethod yX5_conjugate, Cond.selects RX5 yX5_conjugate yX5_conjugate, Cond.code yX5_conjugate cX5_conjugate 3 (some .int), Cond.methodLink RX5 107 yX1_conjugated, Cond.methodLink RL 33 yX6_conjugate, Cond.instanceMethod yX6_conjugate, Cond.selects RX6 yX6_conjugate yX6_conjugate, Cond.code yX6_conjugate cX6_conjugate 3 (some .int), Cond.methodLink RL 34 yX5_span, Cond.instanceMethod yX5_span, Cond.selects RX5 yX5_span yX5_span, Cond.code yX5_span cX5_span 2 (some .int), Cond.methodLink RX5 110 yX1_isSet, Cond.instanceMethod yX1_isSet, Cond.selects RX1 yX1_isSet yX1_isSet, Cond.code yX1_isSet cX1_isSet 2 (some .boolean), Cond.methodLink RX1 81 yX1_whole, Cond.instanceMethod yX1_whole, Cond.selects RX1 yX1_whole yX1_whole, Cond.code yX1_whole cX1_whole 1 (some .int), Cond.methodLink RX5 113 yX1_spanOf]
def wsL_law_r13 : List Cond := [Cond.instanceMethod yX1_spanOf, Cond.selects RX1 yX1_spanOf yX1_spanOf, Cond.code yX1_spanOf cX1_spanOf 2 (some .int), Cond.methodLink RL 38 yX6_span, Cond.instanceMethod yX6_span, Cond.selects RX6 yX6_span yX6_span, Cond.code yX6_span cX6_span 2 (some .int), Cond.methodLink RX6 42 yX6_isSet, Cond.instanceMethod yX6_isSet, Cond.selects RX6 yX6_isSet yX6_isSet, Cond.code yX6_isSet cX6_isSet 2 (some .boolean), Cond.methodLink RX6 46 yX6_spanOf, Cond.instanceMethod yX6_spanOf, Cond.selects RX6 yX6_spanOf yX6_spanOf, Cond.code yX6_spanOf cX6_spanOf 6 (some .int), Cond.methodLink RL 39 yX5_subgroup, Cond.instanceMethod yX5_subgroup, Cond.selects RX5 yX5_subgroup yX5_subgroup, Cond.code yX5_subgroup cX5_subgroup 4 (some .int), Cond.methodLink RX5 116 yX1_whole, Cond.methodLink RX5 120 yX1_isSubgroup, Cond.instanceMethod yX1_isSubgroup, Cond.selects RX1 yX1_isSubgroup yX1_isSubgroup, Cond.code yX1_isSubgroup cX1_isSubgroup 2 (some .boolean)]
def wsL_law_r14 : List Cond := [Cond.methodLink RX1 93 yX1_isSet, Cond.methodLink RX1 97 yX1_spanOf, Cond.methodLink RL 42 yX6_subgroup, Cond.instanceMethod yX6_subgroup, Cond.selects RX6 yX6_subgroup yX6_subgroup, Cond.code yX6_subgroup cX6_subgroup 4 (some .int), Cond.methodLink RX6 124 yX6_isSubgroup, Cond.instanceMethod yX6_isSubgroup, Cond.selects RX6 yX6_isSubgroup yX6_isSubgroup, Cond.code yX6_isSubgroup cX6_isSubgroup 2 (some .boolean), Cond.methodLink RL 43 yX5_normal, Cond.instanceMethod yX5_normal, Cond.selects RX5 yX5_normal yX5_normal, Cond.code yX5_normal cX5_normal 2 (some .int), Cond.methodLink RX5 123 yX1_isNormal, Cond.instanceMethod yX1_isNormal, Cond.selects RX1 yX1_isNormal yX1_isNormal, Cond.code yX1_isNormal cX1_isNormal 3 (some .boolean), Cond.methodLink RX1 87 yX1_conjugatesOf, Cond.methodLink RL 46 yX6_normal, Cond.instanceMethod yX6_normal, Cond.selects RX6 yX6_normal yX6_normal, Cond.code yX6_normal cX6_normal 2 (some .int), Cond.methodLink RX6 127 yX6_isNormal]
def wsL_law_r15 : List Cond := [Cond.instanceMethod yX6_isNormal, Cond.selects RX6 yX6_isNormal yX6_isNormal, Cond.code yX6_isNormal cX6_isNormal 4 (some .boolean), Cond.methodLink RL 47 yX5_centre, Cond.instanceMethod yX5_centre, Cond.selects RX5 yX5_centre yX5_centre, Cond.code yX5_centre cX5_centre 2 (some .int), Cond.methodLink RX5 126 yX1_centreSet, Cond.instanceMethod yX1_centreSet, Cond.selects RX1 yX1_centreSet yX1_centreSet, Cond.code yX1_centreSet cX1_centreSet 3 (some .int), Cond.methodLink RX5 129 yX1_countOfOrder, Cond.instanceMethod yX1_countOfOrder, Cond.selects RX1 yX1_countOfOrder yX1_countOfOrder, Cond.code yX1_countOfOrder cX1_countOfOrder 4 (some .int), Cond.methodLink RL 50 yX6_centre, Cond.instanceMethod yX6_centre, Cond.selects RX6 yX6_centre yX6_centre, Cond.code yX6_centre cX6_centre 7 (some .int), Cond.methodLink RL 51 yX5_handles, Cond.instanceMethod yX5_handles, Cond.selects RX5 yX5_handles yX5_handles, Cond.code yX5_handles cX5_handles 3 (some .int), Cond.methodLink RL 54 yX6_handles]
def wsL_law_r16 : List Cond := [Cond.instanceMethod yX6_handles, Cond.selects RX6 yX6_handles yX6_handles, Cond.code yX6_handles cX6_handles 3 (some .int), Cond.fieldLink RX6 130 "TurningGroupsModel" "periods" "I", Cond.fieldLink RX6 133 "TurningGroupsModel" "hands" "I", Cond.methodLink RL 55 yX5_period, Cond.instanceMethod yX5_period, Cond.selects RX5 yX5_period yX5_period, Cond.code yX5_period cX5_period 2 (some .int), Cond.methodLink RX5 138 yX4_digits, Cond.instanceMethod yX4_digits, Cond.selects RX4 yX4_digits yX4_digits, Cond.code yX4_digits cX4_digits 1 (some .int), Cond.fieldLink RX4 15 "TurningGroups$Signature" "handles" "I", Cond.fieldLink RX4 19 "TurningGroups$Signature" "count" "I", Cond.methodLink RX5 141 yX4_add, Cond.instanceMethod yX4_add, Cond.selects RX4 yX4_add yX4_add, Cond.code yX4_add cX4_add 2 none, Cond.methodLink RL 58 yX6_period, Cond.instanceMethod yX6_period, Cond.selects RX6 yX6_period yX6_period, Cond.code yX6_period cX6_period 2 (some .int), Cond.methodLink RL 59 yX5_drop]
def wsL_law_r17 : List Cond := [Cond.instanceMethod yX5_drop, Cond.selects RX5 yX5_drop yX5_drop, Cond.code yX5_drop cX5_drop 1 (some .int), Cond.methodLink RL 63 yX6_drop, Cond.instanceMethod yX6_drop, Cond.selects RX6 yX6_drop yX6_drop, Cond.code yX6_drop cX6_drop 1 (some .int), Cond.methodLink RL 64 yX5_periodOf, Cond.instanceMethod yX5_periodOf, Cond.selects RX5 yX5_periodOf yX5_periodOf, Cond.code yX5_periodOf cX5_periodOf 2 (some .int), Cond.methodLink RX5 145 yX4_hasPeriod, Cond.instanceMethod yX4_hasPeriod, Cond.selects RX4 yX4_hasPeriod yX4_hasPeriod, Cond.code yX4_hasPeriod cX4_hasPeriod 2 (some .boolean), Cond.methodLink RL 67 yX6_periodOf, Cond.instanceMethod yX6_periodOf, Cond.selects RX6 yX6_periodOf yX6_periodOf, Cond.code yX6_periodOf cX6_periodOf 2 (some .int), Cond.methodLink RL 68 yX5_map, Cond.instanceMethod yX5_map, Cond.selects RX5 yX5_map yX5_map, Cond.code yX5_map cX5_map 2 (some .int), Cond.methodLink RX5 151 yX2_prepare]
def wsL_law_r18 : List Cond := [Cond.instanceMethod yX2_prepare, Cond.selects RX2 yX2_prepare yX2_prepare, Cond.code yX2_prepare cX2_prepare 1 none, Cond.fieldLink RX2 25 "TurningGroups$Maps" "known" "Z", Cond.methodLink RX2 29 yX2_find, Cond.instanceMethod yX2_find, Cond.selects RX2 yX2_find yX2_find, Cond.code yX2_find cX2_find 3 none, Cond.fieldLink RX2 32 "TurningGroups$Maps" "count" "I", Cond.methodLink RX2 36 yX3_startFree, Cond.instanceMethod yX3_startFree, Cond.selects RX3 yX3_startFree yX3_startFree, Cond.code yX3_startFree cX3_startFree 1 none, Cond.methodLink RX3 75 yJ7_fill_53178, Cond.static yJ7_fill_53178, Cond.initialized RJ7, Cond.code yJ7_fill_53178 cJ7_fill_53178 4 none, Cond.methodLink RX2 41 yX3_completesMap, Cond.instanceMethod yX3_completesMap, Cond.selects RX3 yX3_completesMap yX3_completesMap, Cond.code yX3_completesMap cX3_completesMap 2 (some .boolean), Cond.methodLink RX3 45 yX3_productOfFirst, Cond.instanceMethod yX3_productOfFirst, Cond.selects RX3 yX3_productOfFirst yX3_productOfFirst]
def wsL_law_r19 : List Cond := [Cond.code yX3_productOfFirst cX3_productOfFirst 4 (some .int), Cond.methodLink RX3 68 yX1_product, Cond.methodLink RX3 62 yX3_elementOfPeriod, Cond.instanceMethod yX3_elementOfPeriod, Cond.selects RX3 yX3_elementOfPeriod yX3_elementOfPeriod, Cond.code yX3_elementOfPeriod cX3_elementOfPeriod 2 (some .int), Cond.methodLink RX3 49 yX3_isWhole, Cond.instanceMethod yX3_isWhole, Cond.selects RX3 yX3_isWhole yX3_isWhole, Cond.code yX3_isWhole cX3_isWhole 3 (some .boolean), Cond.methodLink RX3 23 yX4_digits, Cond.methodLink RX3 53 yX1_spanOf, Cond.methodLink RX3 56 yX1_whole, Cond.methodLink RX3 42 yX3_hasOrders, Cond.instanceMethod yX3_hasOrders, Cond.selects RX3 yX3_hasOrders yX3_hasOrders, Cond.code yX3_hasOrders cX3_hasOrders 3 (some .boolean), Cond.methodLink RX2 45 yX3_code, Cond.instanceMethod yX3_code, Cond.selects RX3 yX3_code yX3_code, Cond.code yX3_code cX3_code 3 (some .int), Cond.methodLink RX2 49 yX3_advanceFree, Cond.instanceMethod yX3_advanceFree, Cond.selects RX3 yX3_advanceFree yX3_advanceFree]
def wsL_law_r20 : List Cond := [Cond.code yX3_advanceFree cX3_advanceFree 2 (some .boolean), Cond.methodLink RX3 81 yX3_freeDigits, Cond.instanceMethod yX3_freeDigits, Cond.selects RX3 yX3_freeDigits yX3_freeDigits, Cond.code yX3_freeDigits cX3_freeDigits 1 (some .int), Cond.methodLink RX5 155 yX2_has, Cond.instanceMethod yX2_has, Cond.selects RX2 yX2_has yX2_has, Cond.code yX2_has cX2_has 2 (some .boolean), Cond.methodLink RL 71 yX6_map, Cond.instanceMethod yX6_map, Cond.selects RX6 yX6_map yX6_map, Cond.code yX6_map cX6_map 2 (some .int), Cond.fieldLink RX6 150 "TurningGroupsModel" "maps" "I", Cond.methodLink RX6 180 yX6_lay, Cond.instanceMethod yX6_lay, Cond.selects RX6 yX6_lay yX6_lay, Cond.code yX6_lay cX6_lay 3 none, Cond.methodLink RX6 136 yX6_length, Cond.instanceMethod yX6_length, Cond.selects RX6 yX6_length yX6_length, Cond.code yX6_length cX6_length 1 (some .int), Cond.methodLink RX6 140 yX6_tens, Cond.static yX6_tens]
def wsL_law_r21 : List Cond := [Cond.code yX6_tens cX6_tens 3 (some .int), Cond.methodLink RX6 153 yX6_codeIs, Cond.instanceMethod yX6_codeIs, Cond.selects RX6 yX6_codeIs yX6_codeIs, Cond.code yX6_codeIs cX6_codeIs 2 (some .int), Cond.methodLink RX6 143 yX6_read, Cond.instanceMethod yX6_read, Cond.selects RX6 yX6_read yX6_read, Cond.code yX6_read cX6_read 4 none, Cond.methodLink RX6 147 yX6_whatIs, Cond.instanceMethod yX6_whatIs, Cond.selects RX6 yX6_whatIs yX6_whatIs, Cond.code yX6_whatIs cX6_whatIs 5 (some .int), Cond.methodLink RX6 156 yX6_layClasses, Cond.instanceMethod yX6_layClasses, Cond.selects RX6 yX6_layClasses yX6_layClasses, Cond.code yX6_layClasses cX6_layClasses 3 none, Cond.fieldLink RX6 174 "TurningGroupsModel" "classMany" "I", Cond.methodLink RX6 177 yX6_spread, Cond.instanceMethod yX6_spread, Cond.selects RX6 yX6_spread yX6_spread, Cond.code yX6_spread cX6_spread 6 none, Cond.methodLink RX6 165 yX6_isMove, Cond.instanceMethod yX6_isMove]
def wsL_law_r22 : List Cond := [Cond.selects RX6 yX6_isMove yX6_isMove, Cond.code yX6_isMove cX6_isMove 2 (some .boolean), Cond.methodLink RX6 168 yX6_moved, Cond.instanceMethod yX6_moved, Cond.selects RX6 yX6_moved yX6_moved, Cond.code yX6_moved cX6_moved 4 (some .int), Cond.methodLink RX6 159 yX6_swap, Cond.instanceMethod yX6_swap, Cond.selects RX6 yX6_swap yX6_swap, Cond.code yX6_swap cX6_swap 4 none, Cond.methodLink RX6 162 yX6_written, Cond.instanceMethod yX6_written, Cond.selects RX6 yX6_written yX6_written, Cond.code yX6_written cX6_written 3 (some .int), Cond.methodLink RX6 171 yX6_placeOf, Cond.instanceMethod yX6_placeOf, Cond.selects RX6 yX6_placeOf yX6_placeOf, Cond.code yX6_placeOf cX6_placeOf 2 (some .int), Cond.methodLink RL 72 yX5_row, Cond.instanceMethod yX5_row, Cond.selects RX5 yX5_row yX5_row, Cond.code yX5_row cX5_row 2 (some .int), Cond.methodLink RX5 161 yX3_read, Cond.instanceMethod yX3_read]
def wsL_law_r23 : List Cond := [Cond.selects RX3 yX3_read yX3_read, Cond.code yX3_read cX3_read 5 (some .boolean), Cond.methodLink RX3 29 yX1_isElement, Cond.methodLink RX5 164 yX3_kind, Cond.instanceMethod yX3_kind, Cond.selects RX3 yX3_kind yX3_kind, Cond.code yX3_kind cX3_kind 1 (some .int), Cond.methodLink RL 75 yX6_row, Cond.instanceMethod yX6_row, Cond.selects RX6 yX6_row yX6_row, Cond.code yX6_row cX6_row 2 (some .int), Cond.methodLink RL 76 yX5_genus, Cond.instanceMethod yX5_genus, Cond.selects RX5 yX5_genus yX5_genus, Cond.code yX5_genus cX5_genus 1 (some .int), Cond.methodLink RX5 167 yX4_genusOver, Cond.instanceMethod yX4_genusOver, Cond.selects RX4 yX4_genusOver yX4_genusOver, Cond.code yX4_genusOver cX4_genusOver 5 (some .int), Cond.methodLink RL 79 yX6_genus, Cond.instanceMethod yX6_genus, Cond.selects RX6 yX6_genus yX6_genus, Cond.code yX6_genus cX6_genus 1 (some .int), Cond.methodLink RX6 183 yX6_genusOf]
def wsL_law_r24 : List Cond := [Cond.instanceMethod yX6_genusOf, Cond.selects RX6 yX6_genusOf yX6_genusOf, Cond.code yX6_genusOf cX6_genusOf 3 (some .int), Cond.methodLink RL 80 yX5_fixed, Cond.instanceMethod yX5_fixed, Cond.selects RX5 yX5_fixed yX5_fixed, Cond.code yX5_fixed cX5_fixed 5 (some .int), Cond.methodLink RX5 170 yX5_readsMap, Cond.instanceMethod yX5_readsMap, Cond.selects RX5 yX5_readsMap yX5_readsMap, Cond.code yX5_readsMap cX5_readsMap 2 (some .boolean), Cond.methodLink RX5 173 yX3_elementOfPeriod, Cond.methodLink RX5 176 yX1_fixedPlaces, Cond.instanceMethod yX1_fixedPlaces, Cond.selects RX1 yX1_fixedPlaces yX1_fixedPlaces, Cond.code yX1_fixedPlaces cX1_fixedPlaces 7 (some .int), Cond.methodLink RL 83 yX6_fixed, Cond.instanceMethod yX6_fixed, Cond.selects RX6 yX6_fixed yX6_fixed, Cond.code yX6_fixed cX6_fixed 9 (some .int), Cond.methodLink RX6 186 yX6_leftOf, Cond.instanceMethod yX6_leftOf, Cond.selects RX6 yX6_leftOf yX6_leftOf, Cond.code yX6_leftOf cX6_leftOf 5 (some .int)]
def wsL_law_r25 : List Cond := [Cond.methodLink RL 84 yX5_left, Cond.instanceMethod yX5_left, Cond.selects RX5 yX5_left yX5_left, Cond.code yX5_left cX5_left 5 (some .int), Cond.methodLink RX5 179 yX1_indexOf, Cond.instanceMethod yX1_indexOf, Cond.selects RX1 yX1_indexOf yX1_indexOf, Cond.code yX1_indexOf cX1_indexOf 3 (some .int), Cond.methodLink RX1 100 yJ6_bitCount_0f7a4, Cond.methodLink RX5 182 yX1_setsBetween, Cond.instanceMethod yX1_setsBetween, Cond.selects RX1 yX1_setsBetween yX1_setsBetween, Cond.code yX1_setsBetween cX1_setsBetween 6 (some .int), Cond.methodLink RL 87 yX6_left, Cond.instanceMethod yX6_left, Cond.selects RX6 yX6_left yX6_left, Cond.code yX6_left cX6_left 10 (some .int), Cond.methodLink RL 88 yX5_behind, Cond.instanceMethod yX5_behind, Cond.selects RX5 yX5_behind yX5_behind, Cond.code yX5_behind cX5_behind 4 (some .int), Cond.methodLink RX5 185 yX1_orderBehind, Cond.instanceMethod yX1_orderBehind, Cond.selects RX1 yX1_orderBehind yX1_orderBehind]
def wsL_law_r26 : List Cond := [Cond.code yX1_orderBehind cX1_orderBehind 5 (some .int), Cond.methodLink RL 92 yX6_behind, Cond.instanceMethod yX6_behind, Cond.selects RX6 yX6_behind yX6_behind, Cond.code yX6_behind cX6_behind 7 (some .int), Cond.methodLink RL 93 yX5_move, Cond.instanceMethod yX5_move, Cond.selects RX5 yX5_move yX5_move, Cond.code yX5_move cX5_move 3 (some .int), Cond.methodLink RX5 188 yX3_moveBy, Cond.instanceMethod yX3_moveBy, Cond.selects RX3 yX3_moveBy yX3_moveBy, Cond.code yX3_moveBy cX3_moveBy 2 (some .boolean), Cond.methodLink RX3 95 yX3_moveNeighbours, Cond.instanceMethod yX3_moveNeighbours, Cond.selects RX3 yX3_moveNeighbours yX3_moveNeighbours, Cond.code yX3_moveNeighbours cX3_moveNeighbours 2 none, Cond.methodLink RX3 102 yX3_swapNeighbours, Cond.instanceMethod yX3_swapNeighbours, Cond.selects RX3 yX3_swapNeighbours yX3_swapNeighbours, Cond.code yX3_swapNeighbours cX3_swapNeighbours 3 none, Cond.methodLink RX3 105 yX1_conjugated, Cond.methodLink RX3 99 yX3_moveByElement, Cond.instanceMethod yX3_moveByElement]
def wsL_law_r27 : List Cond := [Cond.selects RX3 yX3_moveByElement yX3_moveByElement, Cond.code yX3_moveByElement cX3_moveByElement 3 none, Cond.methodLink RX5 191 yX3_code, Cond.methodLink RL 96 yX6_move, Cond.instanceMethod yX6_move, Cond.selects RX6 yX6_move yX6_move, Cond.code yX6_move cX6_move 3 (some .int), Cond.methodLink RL 97 yX5_classes, Cond.instanceMethod yX5_classes, Cond.selects RX5 yX5_classes yX5_classes, Cond.code yX5_classes cX5_classes 2 (some .int), Cond.methodLink RX5 194 yX0_prepare, Cond.instanceMethod yX0_prepare, Cond.selects RX0 yX0_prepare yX0_prepare, Cond.code yX0_prepare cX0_prepare 2 none, Cond.fieldLink RX0 38 "TurningGroups$Classes" "known" "Z", Cond.methodLink RX0 51 Lib.Math.min.name, Cond.static Lib.Math.min.name, Cond.code Lib.Math.min.name Lib.Math.min.code 2 (some .int), Cond.fieldLink RX0 57 "TurningGroups$Classes" "moves" "I", Cond.methodLink RX0 42 yX2_prepare, Cond.methodLink RX0 45 yX3_moveCount, Cond.instanceMethod yX3_moveCount, Cond.selects RX3 yX3_moveCount yX3_moveCount]
def wsL_law_r28 : List Cond := [Cond.code yX3_moveCount cX3_moveCount 1 (some .int), Cond.methodLink RX3 92 yX3_movesOfNeighbours, Cond.instanceMethod yX3_movesOfNeighbours, Cond.selects RX3 yX3_movesOfNeighbours yX3_movesOfNeighbours, Cond.code yX3_movesOfNeighbours cX3_movesOfNeighbours 1 (some .int), Cond.methodLink RX3 87 Lib.Math.max.name, Cond.methodLink RX0 64 yX0_findSteps, Cond.instanceMethod yX0_findSteps, Cond.selects RX0 yX0_findSteps yX0_findSteps, Cond.code yX0_findSteps cX0_findSteps 4 none, Cond.methodLink RX0 74 yX3_read, Cond.methodLink RX0 78 yX3_moveAt, Cond.instanceMethod yX3_moveAt, Cond.selects RX3 yX3_moveAt yX3_moveAt, Cond.code yX3_moveAt cX3_moveAt 3 (some .int), Cond.methodLink RX0 82 yX3_moveBy, Cond.methodLink RX0 85 yX3_code, Cond.methodLink RX0 88 yX2_indexOf, Cond.instanceMethod yX2_indexOf, Cond.selects RX2 yX2_indexOf yX2_indexOf, Cond.code yX2_indexOf cX2_indexOf 6 (some .int), Cond.methodLink RX0 68 yX0_sort, Cond.instanceMethod yX0_sort, Cond.selects RX0 yX0_sort yX0_sort]
def wsL_law_r29 : List Cond := [Cond.code yX0_sort cX0_sort 4 none, Cond.fieldLink RX0 91 "TurningGroups$Classes" "count" "I", Cond.methodLink RX0 92 yJ7_fill_53178, Cond.methodLink RX0 98 yX0_spreadFrom, Cond.instanceMethod yX0_spreadFrom, Cond.selects RX0 yX0_spreadFrom yX0_spreadFrom, Cond.code yX0_spreadFrom cX0_spreadFrom 7 (some .int), Cond.methodLink RX5 196 yX0_greatest, Cond.instanceMethod yX0_greatest, Cond.selects RX0 yX0_greatest yX0_greatest, Cond.code yX0_greatest cX0_greatest 3 (some .int), Cond.methodLink RX0 101 yX0_sizeOf, Cond.instanceMethod yX0_sizeOf, Cond.selects RX0 yX0_sizeOf yX0_sizeOf, Cond.code yX0_sizeOf cX0_sizeOf 2 (some .int), Cond.methodLink RX5 199 yX0_sizeOf, Cond.methodLink RL 100 yX6_classes, Cond.instanceMethod yX6_classes, Cond.selects RX6 yX6_classes yX6_classes, Cond.code yX6_classes cX6_classes 6 (some .int), Cond.methodLink RX6 189 yX6_classSize, Cond.instanceMethod yX6_classSize, Cond.selects RX6 yX6_classSize yX6_classSize, Cond.code yX6_classSize cX6_classSize 4 (some .int)]
def wsL_law_r30 : List Cond := [Cond.methodLink RL 101 yX5_classOf, Cond.instanceMethod yX5_classOf, Cond.selects RX5 yX5_classOf yX5_classOf, Cond.code yX5_classOf cX5_classOf 3 (some .int), Cond.methodLink RX5 202 yX2_indexOf, Cond.methodLink RL 104 yX6_classOf, Cond.instanceMethod yX6_classOf, Cond.selects RX6 yX6_classOf yX6_classOf, Cond.code yX6_classOf cX6_classOf 3 (some .int), Cond.methodLink RL 105 yX5_member, Cond.instanceMethod yX5_member, Cond.selects RX5 yX5_member yX5_member, Cond.code yX5_member cX5_member 3 (some .int), Cond.methodLink RX5 206 yX0_codeOf, Cond.instanceMethod yX0_codeOf, Cond.selects RX0 yX0_codeOf yX0_codeOf, Cond.code yX0_codeOf cX0_codeOf 5 (some .int), Cond.methodLink RL 108 yX6_member, Cond.instanceMethod yX6_member, Cond.selects RX6 yX6_member yX6_member, Cond.code yX6_member cX6_member 5 (some .int), Cond.methodLink RL 109 yX5_apart, Cond.instanceMethod yX5_apart, Cond.selects RX5 yX5_apart yX5_apart]
def wsL_law_r31 : List Cond := [Cond.code yX5_apart cX5_apart 5 (some .int), Cond.methodLink RX5 209 yX0_distance, Cond.instanceMethod yX0_distance, Cond.selects RX0 yX0_distance yX0_distance, Cond.code yX0_distance cX0_distance 3 (some .int), Cond.methodLink RL 112 yX6_apart, Cond.instanceMethod yX6_apart, Cond.selects RX6 yX6_apart yX6_apart, Cond.code yX6_apart cX6_apart 5 (some .int), Cond.methodLink RL 113 yX5_found, Cond.instanceMethod yX5_found, Cond.selects RX5 yX5_found yX5_found, Cond.code yX5_found cX5_found 8 (some .int), Cond.methodLink RX5 212 yX4_start, Cond.instanceMethod yX4_start, Cond.selects RX4 yX4_start yX4_start, Cond.code yX4_start cX4_start 4 none, Cond.methodLink RX5 215 yX2_find, Cond.methodLink RX5 218 yX4_periodDigits, Cond.instanceMethod yX4_periodDigits, Cond.selects RX4 yX4_periodDigits yX4_periodDigits, Cond.code yX4_periodDigits cX4_periodDigits 3 (some .int), Cond.methodLink RX5 221 yX4_advance, Cond.instanceMethod yX4_advance]
def wsL_law_r32 : List Cond := [Cond.selects RX4 yX4_advance yX4_advance, Cond.code yX4_advance cX4_advance 4 (some .boolean), Cond.methodLink RL 117 yX6_found, Cond.instanceMethod yX6_found, Cond.selects RX6 yX6_found yX6_found, Cond.code yX6_found cX6_found 11 (some .int), Cond.fieldLink RX6 199 "TurningGroupsModel" "foundMany" "I", Cond.fieldLink RX6 202 "TurningGroupsModel" "foundAt" "I", Cond.methodLink RX6 212 yX6_find, Cond.instanceMethod yX6_find, Cond.selects RX6 yX6_find yX6_find, Cond.code yX6_find cX6_find 5 none, Cond.methodLink RX6 205 yX6_look, Cond.instanceMethod yX6_look, Cond.selects RX6 yX6_look yX6_look, Cond.code yX6_look cX6_look 5 none, Cond.methodLink RX6 192 yX6_divides, Cond.instanceMethod yX6_divides, Cond.selects RX6 yX6_divides yX6_divides, Cond.code yX6_divides cX6_divides 2 (some .boolean), Cond.methodLink RX6 196 yX6_hasMaps, Cond.instanceMethod yX6_hasMaps, Cond.selects RX6 yX6_hasMaps yX6_hasMaps, Cond.code yX6_hasMaps cX6_hasMaps 2 (some .boolean)]
def wsL_law_r33 : List Cond := [Cond.methodLink RX6 209 yX6_goesOn, Cond.instanceMethod yX6_goesOn, Cond.selects RX6 yX6_goesOn yX6_goesOn, Cond.code yX6_goesOn cX6_goesOn 4 (some .boolean), Cond.methodLink RL 118 yX5_keep, Cond.instanceMethod yX5_keep, Cond.selects RX5 yX5_keep yX5_keep, Cond.code yX5_keep cX5_keep 2 (some .int), Cond.methodLink RX5 225 yX5_isShelf, Cond.static yX5_isShelf, Cond.code yX5_isShelf cX5_isShelf 1 (some .boolean), Cond.methodLink RX5 228 yX5_packed, Cond.instanceMethod yX5_packed, Cond.selects RX5 yX5_packed yX5_packed, Cond.code yX5_packed cX5_packed 2 (some .int), Cond.methodLink RX5 231 yX5_shelvesInUse, Cond.instanceMethod yX5_shelvesInUse, Cond.selects RX5 yX5_shelvesInUse yX5_shelvesInUse, Cond.code yX5_shelvesInUse cX5_shelvesInUse 3 (some .int), Cond.methodLink RL 121 yX6_keep, Cond.instanceMethod yX6_keep, Cond.selects RX6 yX6_keep yX6_keep, Cond.code yX6_keep cX6_keep 3 (some .int), Cond.methodLink RX6 216 yX6_shelvesMany]
def wsL_law_r34 : List Cond := [Cond.instanceMethod yX6_shelvesMany, Cond.selects RX6 yX6_shelvesMany yX6_shelvesMany, Cond.code yX6_shelvesMany cX6_shelvesMany 3 (some .int), Cond.methodLink RL 122 yX5_use, Cond.instanceMethod yX5_use, Cond.selects RX5 yX5_use yX5_use, Cond.code yX5_use cX5_use 2 (some .int), Cond.methodLink RX5 234 yX5_unpack, Cond.instanceMethod yX5_unpack, Cond.selects RX5 yX5_unpack yX5_unpack, Cond.code yX5_unpack cX5_unpack 3 none, Cond.methodLink RX5 257 yX4_take, Cond.instanceMethod yX4_take, Cond.selects RX4 yX4_take yX4_take, Cond.code yX4_take cX4_take 5 none, Cond.methodLink RX4 22 yX4_add, Cond.methodLink RL 125 yX6_use, Cond.instanceMethod yX6_use, Cond.selects RX6 yX6_use yX6_use, Cond.code yX6_use cX6_use 3 (some .int), Cond.methodLink RL 126 yX5_empty, Cond.instanceMethod yX5_empty, Cond.selects RX5 yX5_empty yX5_empty, Cond.code yX5_empty cX5_empty 3 (some .int)]
def wsL_law_r35 : List Cond := [Cond.methodLink RL 129 yX6_empty, Cond.instanceMethod yX6_empty, Cond.selects RX6 yX6_empty yX6_empty, Cond.code yX6_empty cX6_empty 3 (some .int), Cond.methodLink RL 130 yX5_like, Cond.instanceMethod yX5_like, Cond.selects RX5 yX5_like yX5_like, Cond.code yX5_like cX5_like 2 (some .int), Cond.methodLink RX5 237 yX5_firstLike, Cond.instanceMethod yX5_firstLike, Cond.selects RX5 yX5_firstLike yX5_firstLike, Cond.code yX5_firstLike cX5_firstLike 3 (some .int), Cond.methodLink RL 133 yX6_like, Cond.instanceMethod yX6_like, Cond.selects RX6 yX6_like yX6_like, Cond.code yX6_like cX6_like 2 (some .int), Cond.methodLink RX6 223 yX6_firstLike, Cond.instanceMethod yX6_firstLike, Cond.selects RX6 yX6_firstLike yX6_firstLike, Cond.code yX6_firstLike cX6_firstLike 3 (some .int), Cond.methodLink RX6 219 yX6_areLike, Cond.instanceMethod yX6_areLike, Cond.selects RX6 yX6_areLike yX6_areLike, Cond.code yX6_areLike cX6_areLike 5 (some .boolean)]
def wsL_law_r36 : List Cond := [Cond.methodLink RL 134 yX5_unlike, Cond.instanceMethod yX5_unlike, Cond.selects RX5 yX5_unlike yX5_unlike, Cond.code yX5_unlike cX5_unlike 3 (some .int), Cond.methodLink RL 137 yX6_unlike, Cond.instanceMethod yX6_unlike, Cond.selects RX6 yX6_unlike yX6_unlike, Cond.code yX6_unlike cX6_unlike 3 (some .int), Cond.methodLink RL 138 yX5_image, Cond.instanceMethod yX5_image, Cond.selects RX5 yX5_image yX5_image, Cond.code yX5_image cX5_image 1 (some .int), Cond.methodLink RX5 240 arraycopyName, Cond.native arraycopyName, Cond.static arraycopyName, Cond.initialized "java/lang/System", Cond.methodLink RL 141 yX6_image, Cond.instanceMethod yX6_image, Cond.selects RX6 yX6_image yX6_image, Cond.code yX6_image cX6_image 3 (some .int), Cond.fieldLink RX6 226 "TurningGroupsModel" "hasImage" "Z", Cond.fieldLink RX6 229 "TurningGroupsModel" "family1" "I", Cond.fieldLink RX6 232 "TurningGroupsModel" "n1" "I", Cond.fieldLink RX6 235 "TurningGroupsModel" "hands1" "I"]
def wsL_law_r37 : List Cond := [Cond.fieldLink RX6 238 "TurningGroupsModel" "periods1" "I", Cond.methodLink RL 142 yX5_back, Cond.instanceMethod yX5_back, Cond.selects RX5 yX5_back yX5_back, Cond.code yX5_back cX5_back 1 (some .int), Cond.methodLink RL 145 yX6_back, Cond.instanceMethod yX6_back, Cond.selects RX6 yX6_back yX6_back, Cond.code yX6_back cX6_back 3 (some .int), Cond.methodLink RL 146 yX5_count, Cond.instanceMethod yX5_count, Cond.selects RX5 yX5_count yX5_count, Cond.code yX5_count cX5_count 2 (some .int), Cond.methodLink RL 149 yX6_count, Cond.instanceMethod yX6_count, Cond.selects RX6 yX6_count yX6_count, Cond.code yX6_count cX6_count 2 (some .int)]
def wsL_law : List Cond := (wsL_law_r1 ++ (wsL_law_r2 ++ (wsL_law_r3 ++ (wsL_law_r4 ++ (wsL_law_r5 ++ (wsL_law_r6 ++ (wsL_law_r7 ++ (wsL_law_r8 ++ (wsL_law_r9 ++ (wsL_law_r10 ++ (wsL_law_r11 ++ (wsL_law_r12 ++ (wsL_law_r13 ++ (wsL_law_r14 ++ (wsL_law_r15 ++ (wsL_law_r16 ++ (wsL_law_r17 ++ (wsL_law_r18 ++ (wsL_law_r19 ++ (wsL_law_r20 ++ (wsL_law_r21 ++ (wsL_law_r22 ++ (wsL_law_r23 ++ (wsL_law_r24 ++ (wsL_law_r25 ++ (wsL_law_r26 ++ (wsL_law_r27 ++ (wsL_law_r28 ++ (wsL_law_r29 ++ (wsL_law_r30 ++ (wsL_law_r31 ++ (wsL_law_r32 ++ (wsL_law_r33 ++ (wsL_law_r34 ++ (wsL_law_r35 ++ (wsL_law_r36 ++ wsL_law_r37)))))))))))))))))))))))))))))))))))) ++ wsX50 ++ wsX60 ++ wsX10 ++ wsX40 ++ wsX30 ++ wsX20 ++ wsX00 ++ ([] : List Cond)
set_option maxRecDepth 20000 in
theorem wsL_law_in : ∀ w ∈ wsL_law, w ∈ lw_tbl := fun w h => (goodIn_p wsL_law [76, 79, 84, 89, 93, 97, 101, 105, 109, 113, 117, 121, 125, 129, 133, 137, 176, 198, 214, 218, 242, 730, 735, 738, 742, 745, 312, 315, 322, 852, 855, 326, 330, 334, 338, 341, 859, 863, 867, 871, 875, 879, 882, 348, 886, 353, 357, 890, 361, 894, 366, 370, 374, 378, 898, 902, 906, 382, 387, 910, 914, 393, 397, 918, 922, 402, 406, 410, 926, 414, 930, 418, 422, 426, 934, 430, 938, 434, 438, 942, 442, 446, 450, 454, 457, 461, 465, 470, 474, 481, 485, 489, 493, 497, 946, 950, 954, 957, 961, 965, 969, 973, 977, 981, 985, 989, 993, 997, 501, 505, 510, 1001, 514, 518, 1005, 1009, 522, 526, 531, 1013, 1017, 535, 539, 544, 1021, 548, 552, 1025, 556, 560, 564, 568, 573, 1029, 578, 582, 595, 587, 591, 599, 604, 610, 614, 619, 623, 627, 1033, 1037, 632, 1041, 637, 641, 1045, 645, 649, 1049, 653, 657, 662, 666, 1053, 1057, 1061, 1065, 1069, 1073, 670, 673, 677, 681, 1077, 1081, 685, 689, 693, 1085, 698, 1089, 702, 706, 1093, 1097, 1101, 710, 1105, 714, 1109, 721, 1113, 725, 1117] (by decide +kernel) (by decide +kernel) w h).1
theorem inlX0 : ∀ w ∈ wsX00, w ∈ wsL_law := fun _ h => List.mem_append_left _ (List.mem_append_right _ h)
theorem inX0 : ∀ w ∈ wsX00, w ∈ lw_tbl := fun w h => wsL_law_in w (inlX0 w h)
theorem inlX1 : ∀ w ∈ wsX10, w ∈ wsL_law := fun _ h => List.mem_append_left _ (List.mem_append_left _ (List.mem_append_left _ (List.mem_append_left _ (List.mem_append_left _ (List.mem_append_right _ h)))))
theorem inX1 : ∀ w ∈ wsX10, w ∈ lw_tbl := fun w h => wsL_law_in w (inlX1 w h)
theorem inlX2 : ∀ w ∈ wsX20, w ∈ wsL_law := fun _ h => List.mem_append_left _ (List.mem_append_left _ (List.mem_append_right _ h))
theorem inX2 : ∀ w ∈ wsX20, w ∈ lw_tbl := fun w h => wsL_law_in w (inlX2 w h)
theorem inlX3 : ∀ w ∈ wsX30, w ∈ wsL_law := fun _ h => List.mem_append_left _ (List.mem_append_left _ (List.mem_append_left _ (List.mem_append_right _ h)))
theorem inX3 : ∀ w ∈ wsX30, w ∈ lw_tbl := fun w h => wsL_law_in w (inlX3 w h)
theorem inlX4 : ∀ w ∈ wsX40, w ∈ wsL_law := fun _ h => List.mem_append_left _ (List.mem_append_left _ (List.mem_append_left _ (List.mem_append_left _ (List.mem_append_right _ h))))
theorem inX4 : ∀ w ∈ wsX40, w ∈ lw_tbl := fun w h => wsL_law_in w (inlX4 w h)
theorem inlX5 : ∀ w ∈ wsX50, w ∈ wsL_law := fun _ h => List.mem_append_left _ (List.mem_append_left _ (List.mem_append_left _ (List.mem_append_left _ (List.mem_append_left _ (List.mem_append_left _ (List.mem_append_left _ (List.mem_append_right _ h)))))))
theorem inX5 : ∀ w ∈ wsX50, w ∈ lw_tbl := fun w h => wsL_law_in w (inlX5 w h)
theorem inlX6 : ∀ w ∈ wsX60, w ∈ wsL_law := fun _ h => List.mem_append_left _ (List.mem_append_left _ (List.mem_append_left _ (List.mem_append_left _ (List.mem_append_left _ (List.mem_append_left _ (List.mem_append_right _ h))))))
theorem inX6 : ∀ w ∈ wsX60, w ∈ lw_tbl := fun w h => wsL_law_in w (inlX6 w h)
theorem inJ6 : ∀ w ∈ wsJ60, w ∈ lw_tbl := by decide +kernel
theorem inJ9 : ∀ w ∈ wsJ90, w ∈ lw_tbl := by decide +kernel
theorem inJ10 : ∀ w ∈ wsJ100, w ∈ lw_tbl := by decide +kernel
theorem inJ7 : ∀ w ∈ wsJ70, w ∈ lw_tbl := by decide +kernel
abbrev vwCl : List vw_C := [(RX0, TX0, 10), (RX1, TX1, 8), (RX2, TX2, 4), (RX3, TX3, 3), (RX4, TX4, 3), (RX5, TX5, 10), (RX6, TX6, 34)]
