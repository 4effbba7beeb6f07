-- ===== PART A: goes FIRST, ahead of the names: the tables' words, and 'selects' of the private methods out of them =====
/-- a private method of a class that the tables say can be made, by its rows of tables_1 -/
def lw_okq (q : MethodName × Nat) : Prop := (q.1.cls ≠ "java/lang/invoke/MethodHandle" ∧ q.1.cls ≠ "java/lang/invoke/VarHandle") ∧ Cond.instantiable q.1.cls q.2 ∈ tables_1 ∧ Cond.privateMethod q.1 ∈ tables_1 ∧ Cond.instanceMethod q.1 ∈ tables_1
theorem lw_p0 : lw_okq (⟨"TurningGroups$Group", "sizeByFamily", "()I"⟩, 8) := ⟨⟨by decide +kernel, by decide +kernel⟩, List.mem_of_getElem? (i := 21) (by decide +kernel), List.mem_of_getElem? (i := 31) (by decide +kernel), List.mem_of_getElem? (i := 32) (by decide +kernel)⟩
theorem lw_p1 : lw_okq (⟨"TurningGroups$Group", "multiplied", "(II)I"⟩, 8) := ⟨⟨by decide +kernel, by decide +kernel⟩, List.mem_of_getElem? (i := 21) (by decide +kernel), List.mem_of_getElem? (i := 35) (by decide +kernel), List.mem_of_getElem? (i := 36) (by decide +kernel)⟩
theorem lw_p2 : lw_okq (⟨"TurningGroups$Group", "intoRing", "(I)I"⟩, 8) := ⟨⟨by decide +kernel, by decide +kernel⟩, List.mem_of_getElem? (i := 21) (by decide +kernel), List.mem_of_getElem? (i := 39) (by decide +kernel), List.mem_of_getElem? (i := 40) (by decide +kernel)⟩
theorem lw_p3 : lw_okq (⟨"TurningGroups$Group", "mirrored", "(II)I"⟩, 8) := ⟨⟨by decide +kernel, by decide +kernel⟩, List.mem_of_getElem? (i := 21) (by decide +kernel), List.mem_of_getElem? (i := 43) (by decide +kernel), List.mem_of_getElem? (i := 44) (by decide +kernel)⟩
theorem lw_p4 : lw_okq (⟨"TurningGroups$Group", "crossed", "(II)I"⟩, 8) := ⟨⟨by decide +kernel, by decide +kernel⟩, List.mem_of_getElem? (i := 21) (by decide +kernel), List.mem_of_getElem? (i := 47) (by decide +kernel), List.mem_of_getElem? (i := 48) (by decide +kernel)⟩
theorem lw_p5 : lw_okq (⟨"TurningGroups$Group", "findInverseAndOrder", "(I)V"⟩, 8) := ⟨⟨by decide +kernel, by decide +kernel⟩, List.mem_of_getElem? (i := 21) (by decide +kernel), List.mem_of_getElem? (i := 51) (by decide +kernel), List.mem_of_getElem? (i := 52) (by decide +kernel)⟩
theorem lw_p6 : lw_okq (⟨"TurningGroups$Group", "findConjugates", "()V"⟩, 8) := ⟨⟨by decide +kernel, by decide +kernel⟩, List.mem_of_getElem? (i := 21) (by decide +kernel), List.mem_of_getElem? (i := 59) (by decide +kernel), List.mem_of_getElem? (i := 60) (by decide +kernel)⟩
theorem lw_p7 : lw_okq (⟨"TurningGroups$Group", "findSpans", "()V"⟩, 8) := ⟨⟨by decide +kernel, by decide +kernel⟩, List.mem_of_getElem? (i := 21) (by decide +kernel), List.mem_of_getElem? (i := 63) (by decide +kernel), List.mem_of_getElem? (i := 64) (by decide +kernel)⟩
theorem lw_p8 : lw_okq (⟨"TurningGroups$Group", "grownToSpan", "(I)I"⟩, 8) := ⟨⟨by decide +kernel, by decide +kernel⟩, List.mem_of_getElem? (i := 21) (by decide +kernel), List.mem_of_getElem? (i := 67) (by decide +kernel), List.mem_of_getElem? (i := 68) (by decide +kernel)⟩
theorem lw_p9 : lw_okq (⟨"TurningGroups", "forgetMaps", "()V"⟩, 10) := ⟨⟨by decide +kernel, by decide +kernel⟩, List.mem_of_getElem? (i := 13) (by decide +kernel), List.mem_of_getElem? (i := 260) (by decide +kernel), List.mem_of_getElem? (i := 261) (by decide +kernel)⟩
theorem lw_p10 : lw_okq (⟨"TurningGroups$Rows", "productOfFirst", "(I)I"⟩, 3) := ⟨⟨by decide +kernel, by decide +kernel⟩, List.mem_of_getElem? (i := 135) (by decide +kernel), List.mem_of_getElem? (i := 403) (by decide +kernel), List.mem_of_getElem? (i := 404) (by decide +kernel)⟩
theorem lw_p11 : lw_okq (⟨"TurningGroups$Rows", "isWhole", "()Z"⟩, 3) := ⟨⟨by decide +kernel, by decide +kernel⟩, List.mem_of_getElem? (i := 135) (by decide +kernel), List.mem_of_getElem? (i := 412) (by decide +kernel), List.mem_of_getElem? (i := 413) (by decide +kernel)⟩
theorem lw_p12 : lw_okq (⟨"TurningGroups$Rows", "hasOrders", "(I)Z"⟩, 3) := ⟨⟨by decide +kernel, by decide +kernel⟩, List.mem_of_getElem? (i := 135) (by decide +kernel), List.mem_of_getElem? (i := 419) (by decide +kernel), List.mem_of_getElem? (i := 420) (by decide +kernel)⟩
theorem lw_p13 : lw_okq (⟨"TurningGroups$Rows", "freeDigits", "()I"⟩, 3) := ⟨⟨by decide +kernel, by decide +kernel⟩, List.mem_of_getElem? (i := 135) (by decide +kernel), List.mem_of_getElem? (i := 431) (by decide +kernel), List.mem_of_getElem? (i := 432) (by decide +kernel)⟩
theorem lw_p14 : lw_okq (⟨"TurningGroups", "readsMap", "(I)Z"⟩, 10) := ⟨⟨by decide +kernel, by decide +kernel⟩, List.mem_of_getElem? (i := 13) (by decide +kernel), List.mem_of_getElem? (i := 464) (by decide +kernel), List.mem_of_getElem? (i := 465) (by decide +kernel)⟩
theorem lw_p15 : lw_okq (⟨"TurningGroups$Rows", "moveNeighbours", "(I)V"⟩, 3) := ⟨⟨by decide +kernel, by decide +kernel⟩, List.mem_of_getElem? (i := 135) (by decide +kernel), List.mem_of_getElem? (i := 502) (by decide +kernel), List.mem_of_getElem? (i := 503) (by decide +kernel)⟩
def lw_privs_1 : List (MethodName × Nat) := [(⟨"TurningGroups$Group", "sizeByFamily", "()I"⟩, 8), (⟨"TurningGroups$Group", "multiplied", "(II)I"⟩, 8), (⟨"TurningGroups$Group", "intoRing", "(I)I"⟩, 8), (⟨"TurningGroups$Group", "mirrored", "(II)I"⟩, 8), (⟨"TurningGroups$Group", "crossed", "(II)I"⟩, 8), (⟨"TurningGroups$Group", "findInverseAndOrder", "(I)V"⟩, 8), (⟨"TurningGroups$Group", "findConjugates", "()V"⟩, 8), (⟨"TurningGroups$Group", "findSpans", "()V"⟩, 8), (⟨"TurningGroups$Group", "grownToSpan", "(I)I"⟩, 8), (⟨"TurningGroups", "forgetMaps", "()V"⟩, 10), (⟨"TurningGroups$Rows", "productOfFirst", "(I)I"⟩, 3), (⟨"TurningGroups$Rows", "isWhole", "()Z"⟩, 3), (⟨"TurningGroups$Rows", "hasOrders", "(I)Z"⟩, 3), (⟨"TurningGroups$Rows", "freeDigits", "()I"⟩, 3), (⟨"TurningGroups", "readsMap", "(I)Z"⟩, 10), (⟨"TurningGroups$Rows", "moveNeighbours", "(I)V"⟩, 3)]
theorem lw_r1 : ∀ q ∈ lw_privs_1, lw_okq q := List.forall_mem_cons.mpr ⟨lw_p0, List.forall_mem_cons.mpr ⟨lw_p1, List.forall_mem_cons.mpr ⟨lw_p2, List.forall_mem_cons.mpr ⟨lw_p3, List.forall_mem_cons.mpr ⟨lw_p4, List.forall_mem_cons.mpr ⟨lw_p5, List.forall_mem_cons.mpr ⟨lw_p6, List.forall_mem_cons.mpr ⟨lw_p7, List.forall_mem_cons.mpr ⟨lw_p8, List.forall_mem_cons.mpr ⟨lw_p9, List.forall_mem_cons.mpr ⟨lw_p10, List.forall_mem_cons.mpr ⟨lw_p11, List.forall_mem_cons.mpr ⟨lw_p12, List.forall_mem_cons.mpr ⟨lw_p13, List.forall_mem_cons.mpr ⟨lw_p14, List.forall_mem_cons.mpr ⟨lw_p15, fun _ h => absurd h List.not_mem_nil⟩⟩⟩⟩⟩⟩⟩⟩⟩⟩⟩⟩⟩⟩⟩⟩
theorem lw_p16 : lw_okq (⟨"TurningGroups$Rows", "swapNeighbours", "(I)V"⟩, 3) := ⟨⟨by decide +kernel, by decide +kernel⟩, List.mem_of_getElem? (i := 135) (by decide +kernel), List.mem_of_getElem? (i := 506) (by decide +kernel), List.mem_of_getElem? (i := 507) (by decide +kernel)⟩
theorem lw_p17 : lw_okq (⟨"TurningGroups$Rows", "moveByElement", "(I)V"⟩, 3) := ⟨⟨by decide +kernel, by decide +kernel⟩, List.mem_of_getElem? (i := 135) (by decide +kernel), List.mem_of_getElem? (i := 511) (by decide +kernel), List.mem_of_getElem? (i := 512) (by decide +kernel)⟩
theorem lw_p18 : lw_okq (⟨"TurningGroups$Rows", "movesOfNeighbours", "()I"⟩, 3) := ⟨⟨by decide +kernel, by decide +kernel⟩, List.mem_of_getElem? (i := 135) (by decide +kernel), List.mem_of_getElem? (i := 529) (by decide +kernel), List.mem_of_getElem? (i := 530) (by decide +kernel)⟩
theorem lw_p19 : lw_okq (⟨"TurningGroups$Classes", "findSteps", "(I)V"⟩, 10) := ⟨⟨by decide +kernel, by decide +kernel⟩, List.mem_of_getElem? (i := 179) (by decide +kernel), List.mem_of_getElem? (i := 537) (by decide +kernel), List.mem_of_getElem? (i := 538) (by decide +kernel)⟩
theorem lw_p20 : lw_okq (⟨"TurningGroups$Classes", "sort", "()V"⟩, 10) := ⟨⟨by decide +kernel, by decide +kernel⟩, List.mem_of_getElem? (i := 179) (by decide +kernel), List.mem_of_getElem? (i := 552) (by decide +kernel), List.mem_of_getElem? (i := 553) (by decide +kernel)⟩
theorem lw_p21 : lw_okq (⟨"TurningGroups$Classes", "spreadFrom", "(I)I"⟩, 10) := ⟨⟨by decide +kernel, by decide +kernel⟩, List.mem_of_getElem? (i := 179) (by decide +kernel), List.mem_of_getElem? (i := 557) (by decide +kernel), List.mem_of_getElem? (i := 558) (by decide +kernel)⟩
theorem lw_p22 : lw_okq (⟨"TurningGroups", "packed", "()I"⟩, 10) := ⟨⟨by decide +kernel, by decide +kernel⟩, List.mem_of_getElem? (i := 13) (by decide +kernel), List.mem_of_getElem? (i := 615) (by decide +kernel), List.mem_of_getElem? (i := 616) (by decide +kernel)⟩
theorem lw_p23 : lw_okq (⟨"TurningGroups", "shelvesInUse", "()I"⟩, 10) := ⟨⟨by decide +kernel, by decide +kernel⟩, List.mem_of_getElem? (i := 13) (by decide +kernel), List.mem_of_getElem? (i := 619) (by decide +kernel), List.mem_of_getElem? (i := 620) (by decide +kernel)⟩
theorem lw_p24 : lw_okq (⟨"TurningGroups", "unpack", "(I)V"⟩, 10) := ⟨⟨by decide +kernel, by decide +kernel⟩, List.mem_of_getElem? (i := 13) (by decide +kernel), List.mem_of_getElem? (i := 627) (by decide +kernel), List.mem_of_getElem? (i := 628) (by decide +kernel)⟩
theorem lw_p25 : lw_okq (⟨"TurningGroups", "firstLike", "(I)I"⟩, 10) := ⟨⟨by decide +kernel, by decide +kernel⟩, List.mem_of_getElem? (i := 13) (by decide +kernel), List.mem_of_getElem? (i := 644) (by decide +kernel), List.mem_of_getElem? (i := 645) (by decide +kernel)⟩
theorem lw_p26 : lw_okq (⟨"TurningGroupsModel", "layTable", "()V"⟩, 34) := ⟨⟨by decide +kernel, by decide +kernel⟩, List.mem_of_getElem? (i := 667) (by decide +kernel), List.mem_of_getElem? (i := 673) (by decide +kernel), List.mem_of_getElem? (i := 674) (by decide +kernel)⟩
theorem lw_p27 : lw_okq (⟨"TurningGroupsModel", "mirrored", "(II)I"⟩, 34) := ⟨⟨by decide +kernel, by decide +kernel⟩, List.mem_of_getElem? (i := 667) (by decide +kernel), List.mem_of_getElem? (i := 680) (by decide +kernel), List.mem_of_getElem? (i := 681) (by decide +kernel)⟩
theorem lw_p28 : lw_okq (⟨"TurningGroupsModel", "isElement", "(I)Z"⟩, 34) := ⟨⟨by decide +kernel, by decide +kernel⟩, List.mem_of_getElem? (i := 667) (by decide +kernel), List.mem_of_getElem? (i := 801) (by decide +kernel), List.mem_of_getElem? (i := 802) (by decide +kernel)⟩
theorem lw_p29 : lw_okq (⟨"TurningGroupsModel", "orderOf", "(I)I"⟩, 34) := ⟨⟨by decide +kernel, by decide +kernel⟩, List.mem_of_getElem? (i := 667) (by decide +kernel), List.mem_of_getElem? (i := 805) (by decide +kernel), List.mem_of_getElem? (i := 806) (by decide +kernel)⟩
theorem lw_p30 : lw_okq (⟨"TurningGroupsModel", "product", "(II)I"⟩, 34) := ⟨⟨by decide +kernel, by decide +kernel⟩, List.mem_of_getElem? (i := 667) (by decide +kernel), List.mem_of_getElem? (i := 809) (by decide +kernel), List.mem_of_getElem? (i := 810) (by decide +kernel)⟩
theorem lw_p31 : lw_okq (⟨"TurningGroupsModel", "inverse", "(I)I"⟩, 34) := ⟨⟨by decide +kernel, by decide +kernel⟩, List.mem_of_getElem? (i := 667) (by decide +kernel), List.mem_of_getElem? (i := 813) (by decide +kernel), List.mem_of_getElem? (i := 814) (by decide +kernel)⟩
def lw_privs_2 : List (MethodName × Nat) := [(⟨"TurningGroups$Rows", "swapNeighbours", "(I)V"⟩, 3), (⟨"TurningGroups$Rows", "moveByElement", "(I)V"⟩, 3), (⟨"TurningGroups$Rows", "movesOfNeighbours", "()I"⟩, 3), (⟨"TurningGroups$Classes", "findSteps", "(I)V"⟩, 10), (⟨"TurningGroups$Classes", "sort", "()V"⟩, 10), (⟨"TurningGroups$Classes", "spreadFrom", "(I)I"⟩, 10), (⟨"TurningGroups", "packed", "()I"⟩, 10), (⟨"TurningGroups", "shelvesInUse", "()I"⟩, 10), (⟨"TurningGroups", "unpack", "(I)V"⟩, 10), (⟨"TurningGroups", "firstLike", "(I)I"⟩, 10), (⟨"TurningGroupsModel", "layTable", "()V"⟩, 34), (⟨"TurningGroupsModel", "mirrored", "(II)I"⟩, 34), (⟨"TurningGroupsModel", "isElement", "(I)Z"⟩, 34), (⟨"TurningGroupsModel", "orderOf", "(I)I"⟩, 34), (⟨"TurningGroupsModel", "product", "(II)I"⟩, 34), (⟨"TurningGroupsModel", "inverse", "(I)I"⟩, 34)]
theorem lw_r2 : ∀ q ∈ lw_privs_2, lw_okq q := List.forall_mem_cons.mpr ⟨lw_p16, List.forall_mem_cons.mpr ⟨lw_p17, List.forall_mem_cons.mpr ⟨lw_p18, List.forall_mem_cons.mpr ⟨lw_p19, List.forall_mem_cons.mpr ⟨lw_p20, List.forall_mem_cons.mpr ⟨lw_p21, List.forall_mem_cons.mpr ⟨lw_p22, List.forall_mem_cons.mpr ⟨lw_p23, List.forall_mem_cons.mpr ⟨lw_p24, List.forall_mem_cons.mpr ⟨lw_p25, List.forall_mem_cons.mpr ⟨lw_p26, List.forall_mem_cons.mpr ⟨lw_p27, List.forall_mem_cons.mpr ⟨lw_p28, List.forall_mem_cons.mpr ⟨lw_p29, List.forall_mem_cons.mpr ⟨lw_p30, List.forall_mem_cons.mpr ⟨lw_p31, fun _ h => absurd h List.not_mem_nil⟩⟩⟩⟩⟩⟩⟩⟩⟩⟩⟩⟩⟩⟩⟩⟩
theorem lw_p32 : lw_okq (⟨"TurningGroupsModel", "turned", "(II)I"⟩, 34) := ⟨⟨by decide +kernel, by decide +kernel⟩, List.mem_of_getElem? (i := 667) (by decide +kernel), List.mem_of_getElem? (i := 817) (by decide +kernel), List.mem_of_getElem? (i := 818) (by decide +kernel)⟩
theorem lw_p33 : lw_okq (⟨"TurningGroupsModel", "isSet", "(I)Z"⟩, 34) := ⟨⟨by decide +kernel, by decide +kernel⟩, List.mem_of_getElem? (i := 667) (by decide +kernel), List.mem_of_getElem? (i := 840) (by decide +kernel), List.mem_of_getElem? (i := 841) (by decide +kernel)⟩
theorem lw_p34 : lw_okq (⟨"TurningGroupsModel", "spanOf", "(I)I"⟩, 34) := ⟨⟨by decide +kernel, by decide +kernel⟩, List.mem_of_getElem? (i := 667) (by decide +kernel), List.mem_of_getElem? (i := 844) (by decide +kernel), List.mem_of_getElem? (i := 845) (by decide +kernel)⟩
theorem lw_p35 : lw_okq (⟨"TurningGroupsModel", "isSubgroup", "(I)Z"⟩, 34) := ⟨⟨by decide +kernel, by decide +kernel⟩, List.mem_of_getElem? (i := 667) (by decide +kernel), List.mem_of_getElem? (i := 852) (by decide +kernel), List.mem_of_getElem? (i := 853) (by decide +kernel)⟩
theorem lw_p36 : lw_okq (⟨"TurningGroupsModel", "isNormal", "(I)Z"⟩, 34) := ⟨⟨by decide +kernel, by decide +kernel⟩, List.mem_of_getElem? (i := 667) (by decide +kernel), List.mem_of_getElem? (i := 860) (by decide +kernel), List.mem_of_getElem? (i := 861) (by decide +kernel)⟩
theorem lw_p37 : lw_okq (⟨"TurningGroupsModel", "lay", "()V"⟩, 34) := ⟨⟨by decide +kernel, by decide +kernel⟩, List.mem_of_getElem? (i := 667) (by decide +kernel), List.mem_of_getElem? (i := 888) (by decide +kernel), List.mem_of_getElem? (i := 889) (by decide +kernel)⟩
theorem lw_p38 : lw_okq (⟨"TurningGroupsModel", "length", "()I"⟩, 34) := ⟨⟨by decide +kernel, by decide +kernel⟩, List.mem_of_getElem? (i := 667) (by decide +kernel), List.mem_of_getElem? (i := 892) (by decide +kernel), List.mem_of_getElem? (i := 893) (by decide +kernel)⟩
theorem lw_p39 : lw_okq (⟨"TurningGroupsModel", "codeIs", "(I)I"⟩, 34) := ⟨⟨by decide +kernel, by decide +kernel⟩, List.mem_of_getElem? (i := 667) (by decide +kernel), List.mem_of_getElem? (i := 899) (by decide +kernel), List.mem_of_getElem? (i := 900) (by decide +kernel)⟩
theorem lw_p40 : lw_okq (⟨"TurningGroupsModel", "read", "(I)V"⟩, 34) := ⟨⟨by decide +kernel, by decide +kernel⟩, List.mem_of_getElem? (i := 667) (by decide +kernel), List.mem_of_getElem? (i := 903) (by decide +kernel), List.mem_of_getElem? (i := 904) (by decide +kernel)⟩
theorem lw_p41 : lw_okq (⟨"TurningGroupsModel", "whatIs", "()I"⟩, 34) := ⟨⟨by decide +kernel, by decide +kernel⟩, List.mem_of_getElem? (i := 667) (by decide +kernel), List.mem_of_getElem? (i := 907) (by decide +kernel), List.mem_of_getElem? (i := 908) (by decide +kernel)⟩
theorem lw_p42 : lw_okq (⟨"TurningGroupsModel", "layClasses", "()V"⟩, 34) := ⟨⟨by decide +kernel, by decide +kernel⟩, List.mem_of_getElem? (i := 667) (by decide +kernel), List.mem_of_getElem? (i := 911) (by decide +kernel), List.mem_of_getElem? (i := 912) (by decide +kernel)⟩
theorem lw_p43 : lw_okq (⟨"TurningGroupsModel", "spread", "(I)V"⟩, 34) := ⟨⟨by decide +kernel, by decide +kernel⟩, List.mem_of_getElem? (i := 667) (by decide +kernel), List.mem_of_getElem? (i := 915) (by decide +kernel), List.mem_of_getElem? (i := 916) (by decide +kernel)⟩
theorem lw_p44 : lw_okq (⟨"TurningGroupsModel", "isMove", "(I)Z"⟩, 34) := ⟨⟨by decide +kernel, by decide +kernel⟩, List.mem_of_getElem? (i := 667) (by decide +kernel), List.mem_of_getElem? (i := 919) (by decide +kernel), List.mem_of_getElem? (i := 920) (by decide +kernel)⟩
theorem lw_p45 : lw_okq (⟨"TurningGroupsModel", "moved", "(II)I"⟩, 34) := ⟨⟨by decide +kernel, by decide +kernel⟩, List.mem_of_getElem? (i := 667) (by decide +kernel), List.mem_of_getElem? (i := 923) (by decide +kernel), List.mem_of_getElem? (i := 924) (by decide +kernel)⟩
theorem lw_p46 : lw_okq (⟨"TurningGroupsModel", "swap", "(I)V"⟩, 34) := ⟨⟨by decide +kernel, by decide +kernel⟩, List.mem_of_getElem? (i := 667) (by decide +kernel), List.mem_of_getElem? (i := 927) (by decide +kernel), List.mem_of_getElem? (i := 928) (by decide +kernel)⟩
theorem lw_p47 : lw_okq (⟨"TurningGroupsModel", "written", "()I"⟩, 34) := ⟨⟨by decide +kernel, by decide +kernel⟩, List.mem_of_getElem? (i := 667) (by decide +kernel), List.mem_of_getElem? (i := 931) (by decide +kernel), List.mem_of_getElem? (i := 932) (by decide +kernel)⟩
def lw_privs_3 : List (MethodName × Nat) := [(⟨"TurningGroupsModel", "turned", "(II)I"⟩, 34), (⟨"TurningGroupsModel", "isSet", "(I)Z"⟩, 34), (⟨"TurningGroupsModel", "spanOf", "(I)I"⟩, 34), (⟨"TurningGroupsModel", "isSubgroup", "(I)Z"⟩, 34), (⟨"TurningGroupsModel", "isNormal", "(I)Z"⟩, 34), (⟨"TurningGroupsModel", "lay", "()V"⟩, 34), (⟨"TurningGroupsModel", "length", "()I"⟩, 34), (⟨"TurningGroupsModel", "codeIs", "(I)I"⟩, 34), (⟨"TurningGroupsModel", "read", "(I)V"⟩, 34), (⟨"TurningGroupsModel", "whatIs", "()I"⟩, 34), (⟨"TurningGroupsModel", "layClasses", "()V"⟩, 34), (⟨"TurningGroupsModel", "spread", "(I)V"⟩, 34), (⟨"TurningGroupsModel", "isMove", "(I)Z"⟩, 34), (⟨"TurningGroupsModel", "moved", "(II)I"⟩, 34), (⟨"TurningGroupsModel", "swap", "(I)V"⟩, 34), (⟨"TurningGroupsModel", "written", "()I"⟩, 34)]
theorem lw_r3 : ∀ q ∈ lw_privs_3, lw_okq q := List.forall_mem_cons.mpr ⟨lw_p32, List.forall_mem_cons.mpr ⟨lw_p33, List.forall_mem_cons.mpr ⟨lw_p34, List.forall_mem_cons.mpr ⟨lw_p35, List.forall_mem_cons.mpr ⟨lw_p36, List.forall_mem_cons.mpr ⟨lw_p37, List.forall_mem_cons.mpr ⟨lw_p38, List.forall_mem_cons.mpr ⟨lw_p39, List.forall_mem_cons.mpr ⟨lw_p40, List.forall_mem_cons.mpr ⟨lw_p41, List.forall_mem_cons.mpr ⟨lw_p42, List.forall_mem_cons.mpr ⟨lw_p43, List.forall_mem_cons.mpr ⟨lw_p44, List.forall_mem_cons.mpr ⟨lw_p45, List.forall_mem_cons.mpr ⟨lw_p46, List.forall_mem_cons.mpr ⟨lw_p47, fun _ h => absurd h List.not_mem_nil⟩⟩⟩⟩⟩⟩⟩⟩⟩⟩⟩⟩⟩⟩⟩⟩
theorem lw_p48 : lw_okq (⟨"TurningGroupsModel", "placeOf", "(I)I"⟩, 34) := ⟨⟨by decide +kernel, by decide +kernel⟩, List.mem_of_getElem? (i := 667) (by decide +kernel), List.mem_of_getElem? (i := 935) (by decide +kernel), List.mem_of_getElem? (i := 936) (by decide +kernel)⟩
theorem lw_p49 : lw_okq (⟨"TurningGroupsModel", "genusOf", "()I"⟩, 34) := ⟨⟨by decide +kernel, by decide +kernel⟩, List.mem_of_getElem? (i := 667) (by decide +kernel), List.mem_of_getElem? (i := 947) (by decide +kernel), List.mem_of_getElem? (i := 948) (by decide +kernel)⟩
theorem lw_p50 : lw_okq (⟨"TurningGroupsModel", "leftOf", "(II)I"⟩, 34) := ⟨⟨by decide +kernel, by decide +kernel⟩, List.mem_of_getElem? (i := 667) (by decide +kernel), List.mem_of_getElem? (i := 955) (by decide +kernel), List.mem_of_getElem? (i := 956) (by decide +kernel)⟩
theorem lw_p51 : lw_okq (⟨"TurningGroupsModel", "classSize", "(I)I"⟩, 34) := ⟨⟨by decide +kernel, by decide +kernel⟩, List.mem_of_getElem? (i := 667) (by decide +kernel), List.mem_of_getElem? (i := 975) (by decide +kernel), List.mem_of_getElem? (i := 976) (by decide +kernel)⟩
theorem lw_p52 : lw_okq (⟨"TurningGroupsModel", "find", "(III)V"⟩, 34) := ⟨⟨by decide +kernel, by decide +kernel⟩, List.mem_of_getElem? (i := 667) (by decide +kernel), List.mem_of_getElem? (i := 995) (by decide +kernel), List.mem_of_getElem? (i := 996) (by decide +kernel)⟩
theorem lw_p53 : lw_okq (⟨"TurningGroupsModel", "look", "(II)V"⟩, 34) := ⟨⟨by decide +kernel, by decide +kernel⟩, List.mem_of_getElem? (i := 667) (by decide +kernel), List.mem_of_getElem? (i := 999) (by decide +kernel), List.mem_of_getElem? (i := 1000) (by decide +kernel)⟩
theorem lw_p54 : lw_okq (⟨"TurningGroupsModel", "divides", "()Z"⟩, 34) := ⟨⟨by decide +kernel, by decide +kernel⟩, List.mem_of_getElem? (i := 667) (by decide +kernel), List.mem_of_getElem? (i := 1003) (by decide +kernel), List.mem_of_getElem? (i := 1004) (by decide +kernel)⟩
theorem lw_p55 : lw_okq (⟨"TurningGroupsModel", "hasMaps", "()Z"⟩, 34) := ⟨⟨by decide +kernel, by decide +kernel⟩, List.mem_of_getElem? (i := 667) (by decide +kernel), List.mem_of_getElem? (i := 1007) (by decide +kernel), List.mem_of_getElem? (i := 1008) (by decide +kernel)⟩
theorem lw_p56 : lw_okq (⟨"TurningGroupsModel", "goesOn", "()Z"⟩, 34) := ⟨⟨by decide +kernel, by decide +kernel⟩, List.mem_of_getElem? (i := 667) (by decide +kernel), List.mem_of_getElem? (i := 1011) (by decide +kernel), List.mem_of_getElem? (i := 1012) (by decide +kernel)⟩
theorem lw_p57 : lw_okq (⟨"TurningGroupsModel", "shelvesMany", "()I"⟩, 34) := ⟨⟨by decide +kernel, by decide +kernel⟩, List.mem_of_getElem? (i := 667) (by decide +kernel), List.mem_of_getElem? (i := 1019) (by decide +kernel), List.mem_of_getElem? (i := 1020) (by decide +kernel)⟩
theorem lw_p58 : lw_okq (⟨"TurningGroupsModel", "firstLike", "(I)I"⟩, 34) := ⟨⟨by decide +kernel, by decide +kernel⟩, List.mem_of_getElem? (i := 667) (by decide +kernel), List.mem_of_getElem? (i := 1035) (by decide +kernel), List.mem_of_getElem? (i := 1036) (by decide +kernel)⟩
theorem lw_p59 : lw_okq (⟨"TurningGroupsModel", "areLike", "(II)Z"⟩, 34) := ⟨⟨by decide +kernel, by decide +kernel⟩, List.mem_of_getElem? (i := 667) (by decide +kernel), List.mem_of_getElem? (i := 1039) (by decide +kernel), List.mem_of_getElem? (i := 1040) (by decide +kernel)⟩
def lw_privs_4 : List (MethodName × Nat) := [(⟨"TurningGroupsModel", "placeOf", "(I)I"⟩, 34), (⟨"TurningGroupsModel", "genusOf", "()I"⟩, 34), (⟨"TurningGroupsModel", "leftOf", "(II)I"⟩, 34), (⟨"TurningGroupsModel", "classSize", "(I)I"⟩, 34), (⟨"TurningGroupsModel", "find", "(III)V"⟩, 34), (⟨"TurningGroupsModel", "look", "(II)V"⟩, 34), (⟨"TurningGroupsModel", "divides", "()Z"⟩, 34), (⟨"TurningGroupsModel", "hasMaps", "()Z"⟩, 34), (⟨"TurningGroupsModel", "goesOn", "()Z"⟩, 34), (⟨"TurningGroupsModel", "shelvesMany", "()I"⟩, 34), (⟨"TurningGroupsModel", "firstLike", "(I)I"⟩, 34), (⟨"TurningGroupsModel", "areLike", "(II)Z"⟩, 34)]
theorem lw_r4 : ∀ q ∈ lw_privs_4, lw_okq q := List.forall_mem_cons.mpr ⟨lw_p48, List.forall_mem_cons.mpr ⟨lw_p49, List.forall_mem_cons.mpr ⟨lw_p50, List.forall_mem_cons.mpr ⟨lw_p51, List.forall_mem_cons.mpr ⟨lw_p52, List.forall_mem_cons.mpr ⟨lw_p53, List.forall_mem_cons.mpr ⟨lw_p54, List.forall_mem_cons.mpr ⟨lw_p55, List.forall_mem_cons.mpr ⟨lw_p56, List.forall_mem_cons.mpr ⟨lw_p57, List.forall_mem_cons.mpr ⟨lw_p58, List.forall_mem_cons.mpr ⟨lw_p59, fun _ h => absurd h List.not_mem_nil⟩⟩⟩⟩⟩⟩⟩⟩⟩⟩⟩⟩
def lw_privs : List (MethodName × Nat) := lw_privs_1 ++ (lw_privs_2 ++ (lw_privs_3 ++ (lw_privs_4)))
def lw_tbl : List Cond := k2_sels lw_privs ++ tables_1
theorem lw_privs_ok : ∀ q ∈ lw_privs, lw_okq q := by
  show ∀ q ∈ lw_privs_1 ++ (lw_privs_2 ++ (lw_privs_3 ++ (lw_privs_4))), lw_okq q
  exact List.forall_mem_append.mpr ⟨lw_r1, List.forall_mem_append.mpr ⟨lw_r2, List.forall_mem_append.mpr ⟨lw_r3, lw_r4⟩⟩⟩
-- ===== end of PART A; then your names; then what follows =====
/-! ===== BEGIN words of one list among another's, by their places ===== -/
theorem goodIn_r {big : List Cond} (ws : List Cond) (ps : List Nat) (hp : ws = ps.filterMap (fun i => big[i]?)) (h : ws.all goodWord = true) : GoodIn big ws := by
  intro w hw
  have h1 := List.all_eq_true.mp h w hw
  rw [hp] at hw
  obtain ⟨i, -, hi⟩ := List.mem_filterMap.mp hw
  have hm : w ∈ big := by first | exact List.mem_of_getElem? hi | exact List.getElem?_mem hi
  exact ⟨hm, good_of_word h1⟩
theorem goodIn_app {big a b : List Cond} (ha : GoodIn big a) (hb : GoodIn big b) : GoodIn big (a ++ b) := fun w h => (List.mem_append.mp h).elim (ha w) (hb w)
theorem goodIn_ca {big a b : List Cond} {c : Cond} (ha : GoodIn big (c :: a)) (hb : GoodIn big b) : GoodIn big (c :: (a ++ b)) := fun w h => (List.mem_cons.mp h).elim (fun e => ha w (List.mem_cons.mpr (Or.inl e))) (fun h => (List.mem_append.mp h).elim (fun h => ha w (List.mem_cons.mpr (Or.inr h))) (hb w))
theorem goodIn_sub {big ws : List Cond} (hm : ∀ w ∈ ws, w ∈ big) (h : ws.all goodWord = true) : GoodIn big ws := fun w hw => ⟨hm w hw, good_of_word (List.all_eq_true.mp h w hw)⟩
/-! ===== END ===== -/

/-! ===== BEGIN printed: names, fields, word lists, decode rows ===== -/
def RX0 : String := "TurningGroups$Classes"
def TX0 : u_T := fun k => match k with
  | 0 => ("TurningGroups$Classes", "maps", "LTurningGroups$Maps;", true)
  | 1 => ("TurningGroups$Classes", "rows", "LTurningGroups$Rows;", true)
  | 2 => ("TurningGroups$Classes", "steps", "[I", true)
  | 3 => ("TurningGroups$Classes", "numbers", "[I", true)
  | 4 => ("TurningGroups$Classes", "sizes", "[I", true)
  | 5 => ("TurningGroups$Classes", "queue", "[I", true)
  | 6 => ("TurningGroups$Classes", "distances", "[I", true)
  | 7 => ("TurningGroups$Classes", "moves", "I", false)
  | 8 => ("TurningGroups$Classes", "count", "I", false)
  | _ => ("TurningGroups$Classes", "known", "Z", false)
def tyX0 : Nat → FieldType := fun k => match k with
  | 0 => .object "TurningGroups$Maps"
  | 1 => .object "TurningGroups$Rows"
  | 2 => .array .int
  | 3 => .array .int
  | 4 => .array .int
  | 5 => .array .int
  | 6 => .array .int
  | 7 => .int
  | 8 => .int
  | _ => .boolean
abbrev wsX00 : List Cond := u_ws RX0 TX0 10
theorem nmX0 : ∀ a, a < 10 → ∀ b, b < 10 → a ≠ b → (TX0 a).2.1 ≠ (TX0 b).2.1 := by decide +kernel
theorem tyX0_ok : ∀ k, k < 10 → parseFieldDescriptor (TX0 k).2.2.1 = some (tyX0 k) := by decide +kernel
abbrev cX0_init : ByteArray := prog_2_method_1_code
def yX0_init : MethodName := ⟨RX0, "<init>", "(LTurningGroups$Maps;)V"⟩
abbrev cX0_prepare : ByteArray := prog_2_method_2_code
def yX0_prepare : MethodName := ⟨RX0, "prepare", "()V"⟩
abbrev cX0_findSteps : ByteArray := prog_2_method_3_code
def yX0_findSteps : MethodName := ⟨RX0, "findSteps", "(I)V"⟩
abbrev cX0_sort : ByteArray := prog_2_method_4_code
def yX0_sort : MethodName := ⟨RX0, "sort", "()V"⟩
abbrev cX0_spreadFrom : ByteArray := prog_2_method_5_code
def yX0_spreadFrom : MethodName := ⟨RX0, "spreadFrom", "(I)I"⟩
abbrev cX0_distance : ByteArray := prog_2_method_6_code
def yX0_distance : MethodName := ⟨RX0, "distance", "(II)I"⟩
abbrev cX0_sizeOf : ByteArray := prog_2_method_7_code
def yX0_sizeOf : MethodName := ⟨RX0, "sizeOf", "(I)I"⟩
abbrev cX0_greatest : ByteArray := prog_2_method_8_code
def yX0_greatest : MethodName := ⟨RX0, "greatest", "()I"⟩
abbrev cX0_codeOf : ByteArray := prog_2_method_9_code
def yX0_codeOf : MethodName := ⟨RX0, "codeOf", "(II)I"⟩
def RX1 : String := "TurningGroups$Group"
def TX1 : u_T := fun k => match k with
  | 0 => ("TurningGroups$Group", "family", "I", false)
  | 1 => ("TurningGroups$Group", "n", "I", false)
  | 2 => ("TurningGroups$Group", "size", "I", false)
  | 3 => ("TurningGroups$Group", "products", "[I", true)
  | 4 => ("TurningGroups$Group", "inverses", "[I", true)
  | 5 => ("TurningGroups$Group", "orders", "[I", true)
  | 6 => ("TurningGroups$Group", "conjugates", "[I", true)
  | _ => ("TurningGroups$Group", "spans", "[I", true)
def tyX1 : Nat → FieldType := fun k => match k with
  | 0 => .int
  | 1 => .int
  | 2 => .int
  | 3 => .array .int
  | 4 => .array .int
  | 5 => .array .int
  | 6 => .array .int
  | _ => .array .int
abbrev wsX10 : List Cond := u_ws RX1 TX1 8
theorem nmX1 : ∀ a, a < 8 → ∀ b, b < 8 → a ≠ b → (TX1 a).2.1 ≠ (TX1 b).2.1 := by decide +kernel
theorem tyX1_ok : ∀ k, k < 8 → parseFieldDescriptor (TX1 k).2.2.1 = some (tyX1 k) := by decide +kernel
abbrev cX1_init : ByteArray := prog_3_method_1_code
def yX1_init : MethodName := ⟨RX1, "<init>", "()V"⟩
abbrev cX1_exists : ByteArray := prog_3_method_2_code
def yX1_exists : MethodName := ⟨RX1, "exists", "(II)Z"⟩
abbrev cX1_become : ByteArray := prog_3_method_3_code
def yX1_become : MethodName := ⟨RX1, "become", "(II)V"⟩
abbrev cX1_sizeByFamily : ByteArray := prog_3_method_4_code
def yX1_sizeByFamily : MethodName := ⟨RX1, "sizeByFamily", "()I"⟩
abbrev cX1_multiplied : ByteArray := prog_3_method_5_code
def yX1_multiplied : MethodName := ⟨RX1, "multiplied", "(II)I"⟩
abbrev cX1_intoRing : ByteArray := prog_3_method_6_code
def yX1_intoRing : MethodName := ⟨RX1, "intoRing", "(I)I"⟩
abbrev cX1_mirrored : ByteArray := prog_3_method_7_code
def yX1_mirrored : MethodName := ⟨RX1, "mirrored", "(II)I"⟩
abbrev cX1_crossed : ByteArray := prog_3_method_8_code
def yX1_crossed : MethodName := ⟨RX1, "crossed", "(II)I"⟩
abbrev cX1_findInverseAndOrder : ByteArray := prog_3_method_9_code
def yX1_findInverseAndOrder : MethodName := ⟨RX1, "findInverseAndOrder", "(I)V"⟩
abbrev cX1_findConjugates : ByteArray := prog_3_method_10_code
def yX1_findConjugates : MethodName := ⟨RX1, "findConjugates", "()V"⟩
abbrev cX1_findSpans : ByteArray := prog_3_method_11_code
def yX1_findSpans : MethodName := ⟨RX1, "findSpans", "()V"⟩
abbrev cX1_grownToSpan : ByteArray := prog_3_method_12_code
def yX1_grownToSpan : MethodName := ⟨RX1, "grownToSpan", "(I)I"⟩
abbrev cX1_isElement : ByteArray := prog_3_method_13_code
def yX1_isElement : MethodName := ⟨RX1, "isElement", "(I)Z"⟩
abbrev cX1_isSet : ByteArray := prog_3_method_14_code
def yX1_isSet : MethodName := ⟨RX1, "isSet", "(I)Z"⟩
abbrev cX1_whole : ByteArray := prog_3_method_15_code
def yX1_whole : MethodName := ⟨RX1, "whole", "()I"⟩
abbrev cX1_product : ByteArray := prog_3_method_16_code
def yX1_product : MethodName := ⟨RX1, "product", "(II)I"⟩
abbrev cX1_powerOf : ByteArray := prog_3_method_17_code
def yX1_powerOf : MethodName := ⟨RX1, "powerOf", "(II)I"⟩
abbrev cX1_conjugated : ByteArray := prog_3_method_18_code
def yX1_conjugated : MethodName := ⟨RX1, "conjugated", "(II)I"⟩
abbrev cX1_conjugatesOf : ByteArray := prog_3_method_19_code
def yX1_conjugatesOf : MethodName := ⟨RX1, "conjugatesOf", "(I)I"⟩
abbrev cX1_centreSet : ByteArray := prog_3_method_20_code
def yX1_centreSet : MethodName := ⟨RX1, "centreSet", "()I"⟩
abbrev cX1_countOfOrder : ByteArray := prog_3_method_21_code
def yX1_countOfOrder : MethodName := ⟨RX1, "countOfOrder", "(I)I"⟩
abbrev cX1_productOfSets : ByteArray := prog_3_method_22_code
def yX1_productOfSets : MethodName := ⟨RX1, "productOfSets", "(II)I"⟩
abbrev cX1_productWithSet : ByteArray := prog_3_method_23_code
def yX1_productWithSet : MethodName := ⟨RX1, "productWithSet", "(II)I"⟩
abbrev cX1_spanOf : ByteArray := prog_3_method_24_code
def yX1_spanOf : MethodName := ⟨RX1, "spanOf", "(I)I"⟩
abbrev cX1_isSubgroup : ByteArray := prog_3_method_25_code
def yX1_isSubgroup : MethodName := ⟨RX1, "isSubgroup", "(I)Z"⟩
abbrev cX1_isNormal : ByteArray := prog_3_method_26_code
def yX1_isNormal : MethodName := ⟨RX1, "isNormal", "(I)Z"⟩
abbrev cX1_indexOf : ByteArray := prog_3_method_27_code
def yX1_indexOf : MethodName := ⟨RX1, "indexOf", "(I)I"⟩
abbrev cX1_setsBetween : ByteArray := prog_3_method_28_code
def yX1_setsBetween : MethodName := ⟨RX1, "setsBetween", "(II)I"⟩
abbrev cX1_fixedPlaces : ByteArray := prog_3_method_29_code
def yX1_fixedPlaces : MethodName := ⟨RX1, "fixedPlaces", "(II)I"⟩
abbrev cX1_orderBehind : ByteArray := prog_3_method_30_code
def yX1_orderBehind : MethodName := ⟨RX1, "orderBehind", "(II)I"⟩
def RX2 : String := "TurningGroups$Maps"
def TX2 : u_T := fun k => match k with
  | 0 => ("TurningGroups$Maps", "rows", "LTurningGroups$Rows;", true)
  | 1 => ("TurningGroups$Maps", "codes", "[I", true)
  | 2 => ("TurningGroups$Maps", "count", "I", false)
  | _ => ("TurningGroups$Maps", "known", "Z", false)
def tyX2 : Nat → FieldType := fun k => match k with
  | 0 => .object "TurningGroups$Rows"
  | 1 => .array .int
  | 2 => .int
  | _ => .boolean
abbrev wsX20 : List Cond := u_ws RX2 TX2 4
theorem nmX2 : ∀ a, a < 4 → ∀ b, b < 4 → a ≠ b → (TX2 a).2.1 ≠ (TX2 b).2.1 := by decide +kernel
theorem tyX2_ok : ∀ k, k < 4 → parseFieldDescriptor (TX2 k).2.2.1 = some (tyX2 k) := by decide +kernel
abbrev cX2_init : ByteArray := prog_4_method_1_code
def yX2_init : MethodName := ⟨RX2, "<init>", "(LTurningGroups$Rows;I)V"⟩
abbrev cX2_prepare : ByteArray := prog_4_method_2_code
def yX2_prepare : MethodName := ⟨RX2, "prepare", "()V"⟩
abbrev cX2_find : ByteArray := prog_4_method_3_code
def yX2_find : MethodName := ⟨RX2, "find", "()V"⟩
abbrev cX2_has : ByteArray := prog_4_method_4_code
def yX2_has : MethodName := ⟨RX2, "has", "(I)Z"⟩
abbrev cX2_indexOf : ByteArray := prog_4_method_5_code
def yX2_indexOf : MethodName := ⟨RX2, "indexOf", "(I)I"⟩
def RX3 : String := "TurningGroups$Rows"
def TX3 : u_T := fun k => match k with
  | 0 => ("TurningGroups$Rows", "turning", "LTurningGroups$Group;", true)
  | 1 => ("TurningGroups$Rows", "signature", "LTurningGroups$Signature;", true)
  | _ => ("TurningGroups$Rows", "elements", "[I", true)
def tyX3 : Nat → FieldType := fun k => match k with
  | 0 => .object "TurningGroups$Group"
  | 1 => .object "TurningGroups$Signature"
  | _ => .array .int
abbrev wsX30 : List Cond := u_ws RX3 TX3 3
theorem nmX3 : ∀ a, a < 3 → ∀ b, b < 3 → a ≠ b → (TX3 a).2.1 ≠ (TX3 b).2.1 := by decide +kernel
theorem tyX3_ok : ∀ k, k < 3 → parseFieldDescriptor (TX3 k).2.2.1 = some (tyX3 k) := by decide +kernel
abbrev cX3_init : ByteArray := prog_5_method_1_code
def yX3_init : MethodName := ⟨RX3, "<init>", "(LTurningGroups$Group;LTurningGroups$Signature;)V"⟩
abbrev cX3_read : ByteArray := prog_5_method_2_code
def yX3_read : MethodName := ⟨RX3, "read", "(I)Z"⟩
abbrev cX3_code : ByteArray := prog_5_method_3_code
def yX3_code : MethodName := ⟨RX3, "code", "()I"⟩
abbrev cX3_elementOfPeriod : ByteArray := prog_5_method_4_code
def yX3_elementOfPeriod : MethodName := ⟨RX3, "elementOfPeriod", "(I)I"⟩
abbrev cX3_kind : ByteArray := prog_5_method_5_code
def yX3_kind : MethodName := ⟨RX3, "kind", "()I"⟩
abbrev cX3_isWhole : ByteArray := prog_5_method_6_code
def yX3_isWhole : MethodName := ⟨RX3, "isWhole", "()Z"⟩
abbrev cX3_hasOrders : ByteArray := prog_5_method_7_code
def yX3_hasOrders : MethodName := ⟨RX3, "hasOrders", "(I)Z"⟩
abbrev cX3_productOfFirst : ByteArray := prog_5_method_8_code
def yX3_productOfFirst : MethodName := ⟨RX3, "productOfFirst", "(I)I"⟩
abbrev cX3_freeDigits : ByteArray := prog_5_method_9_code
def yX3_freeDigits : MethodName := ⟨RX3, "freeDigits", "()I"⟩
abbrev cX3_startFree : ByteArray := prog_5_method_10_code
def yX3_startFree : MethodName := ⟨RX3, "startFree", "()V"⟩
abbrev cX3_advanceFree : ByteArray := prog_5_method_11_code
def yX3_advanceFree : MethodName := ⟨RX3, "advanceFree", "()Z"⟩
abbrev cX3_completesMap : ByteArray := prog_5_method_12_code
def yX3_completesMap : MethodName := ⟨RX3, "completesMap", "()Z"⟩
abbrev cX3_movesOfNeighbours : ByteArray := prog_5_method_13_code
def yX3_movesOfNeighbours : MethodName := ⟨RX3, "movesOfNeighbours", "()I"⟩
abbrev cX3_moveCount : ByteArray := prog_5_method_14_code
def yX3_moveCount : MethodName := ⟨RX3, "moveCount", "()I"⟩
abbrev cX3_moveAt : ByteArray := prog_5_method_15_code
def yX3_moveAt : MethodName := ⟨RX3, "moveAt", "(I)I"⟩
abbrev cX3_moveBy : ByteArray := prog_5_method_16_code
def yX3_moveBy : MethodName := ⟨RX3, "moveBy", "(I)Z"⟩
abbrev cX3_moveNeighbours : ByteArray := prog_5_method_17_code
def yX3_moveNeighbours : MethodName := ⟨RX3, "moveNeighbours", "(I)V"⟩
abbrev cX3_swapNeighbours : ByteArray := prog_5_method_18_code
def yX3_swapNeighbours : MethodName := ⟨RX3, "swapNeighbours", "(I)V"⟩
abbrev cX3_moveByElement : ByteArray := prog_5_method_19_code
def yX3_moveByElement : MethodName := ⟨RX3, "moveByElement", "(I)V"⟩
def RX4 : String := "TurningGroups$Signature"
def TX4 : u_T := fun k => match k with
  | 0 => ("TurningGroups$Signature", "handles", "I", false)
  | 1 => ("TurningGroups$Signature", "count", "I", false)
  | _ => ("TurningGroups$Signature", "periods", "[I", true)
def tyX4 : Nat → FieldType := fun k => match k with
  | 0 => .int
  | 1 => .int
  | _ => .array .int
abbrev wsX40 : List Cond := u_ws RX4 TX4 3
theorem nmX4 : ∀ a, a < 3 → ∀ b, b < 3 → a ≠ b → (TX4 a).2.1 ≠ (TX4 b).2.1 := by decide +kernel
theorem tyX4_ok : ∀ k, k < 3 → parseFieldDescriptor (TX4 k).2.2.1 = some (tyX4 k) := by decide +kernel
abbrev cX4_init : ByteArray := prog_6_method_1_code
def yX4_init : MethodName := ⟨RX4, "<init>", "()V"⟩
abbrev cX4_digits : ByteArray := prog_6_method_2_code
def yX4_digits : MethodName := ⟨RX4, "digits", "()I"⟩
abbrev cX4_hasPeriod : ByteArray := prog_6_method_3_code
def yX4_hasPeriod : MethodName := ⟨RX4, "hasPeriod", "(I)Z"⟩
abbrev cX4_add : ByteArray := prog_6_method_4_code
def yX4_add : MethodName := ⟨RX4, "add", "(I)V"⟩
abbrev cX4_periodDigits : ByteArray := prog_6_method_5_code
def yX4_periodDigits : MethodName := ⟨RX4, "periodDigits", "()I"⟩
abbrev cX4_take : ByteArray := prog_6_method_6_code
def yX4_take : MethodName := ⟨RX4, "take", "(II)V"⟩
abbrev cX4_genusOver : ByteArray := prog_6_method_7_code
def yX4_genusOver : MethodName := ⟨RX4, "genusOver", "(I)I"⟩
abbrev cX4_start : ByteArray := prog_6_method_8_code
def yX4_start : MethodName := ⟨RX4, "start", "(II)V"⟩
abbrev cX4_advance : ByteArray := prog_6_method_9_code
def yX4_advance : MethodName := ⟨RX4, "advance", "()Z"⟩
def RX5 : String := "TurningGroups"
def TX5 : u_T := fun k => match k with
  | 0 => ("TurningGroups", "turning", "LTurningGroups$Group;", true)
  | 1 => ("TurningGroups", "signature", "LTurningGroups$Signature;", true)
  | 2 => ("TurningGroups", "rows", "LTurningGroups$Rows;", true)
  | 3 => ("TurningGroups", "maps", "LTurningGroups$Maps;", true)
  | 4 => ("TurningGroups", "sorted", "LTurningGroups$Classes;", true)
  | 5 => ("TurningGroups", "tried", "LTurningGroups$Signature;", true)
  | 6 => ("TurningGroups", "triedMaps", "LTurningGroups$Maps;", true)
  | 7 => ("TurningGroups", "shelves", "[I", true)
  | 8 => ("TurningGroups", "imageShelves", "[I", true)
  | _ => ("TurningGroups", "imagePacked", "I", false)
def tyX5 : Nat → FieldType := fun k => match k with
  | 0 => .object "TurningGroups$Group"
  | 1 => .object "TurningGroups$Signature"
  | 2 => .object "TurningGroups$Rows"
  | 3 => .object "TurningGroups$Maps"
  | 4 => .object "TurningGroups$Classes"
  | 5 => .object "TurningGroups$Signature"
  | 6 => .object "TurningGroups$Maps"
  | 7 => .array .int
  | 8 => .array .int
  | _ => .int
abbrev wsX50 : List Cond := u_ws RX5 TX5 10
theorem nmX5 : ∀ a, a < 10 → ∀ b, b < 10 → a ≠ b → (TX5 a).2.1 ≠ (TX5 b).2.1 := by decide +kernel
theorem tyX5_ok : ∀ k, k < 10 → parseFieldDescriptor (TX5 k).2.2.1 = some (tyX5 k) := by decide +kernel
abbrev cX5_init : ByteArray := prog_1_method_1_code
def yX5_init : MethodName := ⟨RX5, "<init>", "()V"⟩
abbrev cX5_group : ByteArray := prog_1_method_2_code
def yX5_group : MethodName := ⟨RX5, "group", "(II)I"⟩
abbrev cX5_of : ByteArray := prog_1_method_3_code
def yX5_of : MethodName := ⟨RX5, "of", "(II)I"⟩
abbrev cX5_times : ByteArray := prog_1_method_4_code
def yX5_times : MethodName := ⟨RX5, "times", "(II)I"⟩
abbrev cX5_power : ByteArray := prog_1_method_5_code
def yX5_power : MethodName := ⟨RX5, "power", "(II)I"⟩
abbrev cX5_conjugate : ByteArray := prog_1_method_6_code
def yX5_conjugate : MethodName := ⟨RX5, "conjugate", "(II)I"⟩
abbrev cX5_span : ByteArray := prog_1_method_7_code
def yX5_span : MethodName := ⟨RX5, "span", "(I)I"⟩
abbrev cX5_subgroup : ByteArray := prog_1_method_8_code
def yX5_subgroup : MethodName := ⟨RX5, "subgroup", "(I)I"⟩
abbrev cX5_normal : ByteArray := prog_1_method_9_code
def yX5_normal : MethodName := ⟨RX5, "normal", "(I)I"⟩
abbrev cX5_centre : ByteArray := prog_1_method_10_code
def yX5_centre : MethodName := ⟨RX5, "centre", "(I)I"⟩
abbrev cX5_handles : ByteArray := prog_1_method_11_code
def yX5_handles : MethodName := ⟨RX5, "handles", "(I)I"⟩
abbrev cX5_period : ByteArray := prog_1_method_12_code
def yX5_period : MethodName := ⟨RX5, "period", "(I)I"⟩
abbrev cX5_drop : ByteArray := prog_1_method_13_code
def yX5_drop : MethodName := ⟨RX5, "drop", "()I"⟩
abbrev cX5_periodOf : ByteArray := prog_1_method_14_code
def yX5_periodOf : MethodName := ⟨RX5, "periodOf", "(I)I"⟩
abbrev cX5_map : ByteArray := prog_1_method_15_code
def yX5_map : MethodName := ⟨RX5, "map", "(I)I"⟩
abbrev cX5_row : ByteArray := prog_1_method_16_code
def yX5_row : MethodName := ⟨RX5, "row", "(I)I"⟩
abbrev cX5_genus : ByteArray := prog_1_method_17_code
def yX5_genus : MethodName := ⟨RX5, "genus", "()I"⟩
abbrev cX5_fixed : ByteArray := prog_1_method_18_code
def yX5_fixed : MethodName := ⟨RX5, "fixed", "(II)I"⟩
abbrev cX5_left : ByteArray := prog_1_method_19_code
def yX5_left : MethodName := ⟨RX5, "left", "(II)I"⟩
abbrev cX5_behind : ByteArray := prog_1_method_20_code
def yX5_behind : MethodName := ⟨RX5, "behind", "(III)I"⟩
abbrev cX5_move : ByteArray := prog_1_method_21_code
def yX5_move : MethodName := ⟨RX5, "move", "(II)I"⟩
abbrev cX5_classes : ByteArray := prog_1_method_22_code
def yX5_classes : MethodName := ⟨RX5, "classes", "(I)I"⟩
abbrev cX5_classOf : ByteArray := prog_1_method_23_code
def yX5_classOf : MethodName := ⟨RX5, "classOf", "(I)I"⟩
abbrev cX5_member : ByteArray := prog_1_method_24_code
def yX5_member : MethodName := ⟨RX5, "member", "(II)I"⟩
abbrev cX5_apart : ByteArray := prog_1_method_25_code
def yX5_apart : MethodName := ⟨RX5, "apart", "(II)I"⟩
abbrev cX5_found : ByteArray := prog_1_method_26_code
def yX5_found : MethodName := ⟨RX5, "found", "(IIII)I"⟩
abbrev cX5_keep : ByteArray := prog_1_method_27_code
def yX5_keep : MethodName := ⟨RX5, "keep", "(I)I"⟩
abbrev cX5_use : ByteArray := prog_1_method_28_code
def yX5_use : MethodName := ⟨RX5, "use", "(I)I"⟩
abbrev cX5_empty : ByteArray := prog_1_method_29_code
def yX5_empty : MethodName := ⟨RX5, "empty", "(I)I"⟩
abbrev cX5_like : ByteArray := prog_1_method_30_code
def yX5_like : MethodName := ⟨RX5, "like", "(I)I"⟩
abbrev cX5_unlike : ByteArray := prog_1_method_31_code
def yX5_unlike : MethodName := ⟨RX5, "unlike", "()I"⟩
abbrev cX5_image : ByteArray := prog_1_method_32_code
def yX5_image : MethodName := ⟨RX5, "image", "()I"⟩
abbrev cX5_back : ByteArray := prog_1_method_33_code
def yX5_back : MethodName := ⟨RX5, "back", "()I"⟩
abbrev cX5_count : ByteArray := prog_1_method_34_code
def yX5_count : MethodName := ⟨RX5, "count", "(I)I"⟩
abbrev cX5_forgetMaps : ByteArray := prog_1_method_35_code
def yX5_forgetMaps : MethodName := ⟨RX5, "forgetMaps", "()V"⟩
abbrev cX5_readsMap : ByteArray := prog_1_method_36_code
def yX5_readsMap : MethodName := ⟨RX5, "readsMap", "(I)Z"⟩
abbrev cX5_isShelf : ByteArray := prog_1_method_37_code
def yX5_isShelf : MethodName := ⟨RX5, "isShelf", "(I)Z"⟩
abbrev cX5_shelvesInUse : ByteArray := prog_1_method_38_code
def yX5_shelvesInUse : MethodName := ⟨RX5, "shelvesInUse", "()I"⟩
abbrev cX5_firstLike : ByteArray := prog_1_method_39_code
def yX5_firstLike : MethodName := ⟨RX5, "firstLike", "(I)I"⟩
abbrev cX5_packed : ByteArray := prog_1_method_40_code
def yX5_packed : MethodName := ⟨RX5, "packed", "()I"⟩
abbrev cX5_unpack : ByteArray := prog_1_method_41_code
def yX5_unpack : MethodName := ⟨RX5, "unpack", "(I)V"⟩
def RX6 : String := "TurningGroupsModel"
def TX6 : u_T := fun k => match k with
  | 0 => ("TurningGroupsModel", "family", "I", false)
  | 1 => ("TurningGroupsModel", "n", "I", false)
  | 2 => ("TurningGroupsModel", "size", "I", false)
  | 3 => ("TurningGroupsModel", "table", "[I", true)
  | 4 => ("TurningGroupsModel", "hands", "I", false)
  | 5 => ("TurningGroupsModel", "periods", "I", false)
  | 6 => ("TurningGroupsModel", "period", "[I", true)
  | 7 => ("TurningGroupsModel", "areLaid", "Z", false)
  | 8 => ("TurningGroupsModel", "maps", "I", false)
  | 9 => ("TurningGroupsModel", "map", "[I", true)
  | 10 => ("TurningGroupsModel", "classIn", "[I", true)
  | 11 => ("TurningGroupsModel", "far", "[I", true)
  | 12 => ("TurningGroupsModel", "queue", "[I", true)
  | 13 => ("TurningGroupsModel", "placeIn", "[I", true)
  | 14 => ("TurningGroupsModel", "classMany", "I", false)
  | 15 => ("TurningGroupsModel", "shelfFamily", "[I", true)
  | 16 => ("TurningGroupsModel", "shelfN", "[I", true)
  | 17 => ("TurningGroupsModel", "shelfHands", "[I", true)
  | 18 => ("TurningGroupsModel", "shelfPeriods", "[I", true)
  | 19 => ("TurningGroupsModel", "shelfPeriod", "[I", true)
  | 20 => ("TurningGroupsModel", "hasImage", "Z", false)
  | 21 => ("TurningGroupsModel", "family1", "I", false)
  | 22 => ("TurningGroupsModel", "n1", "I", false)
  | 23 => ("TurningGroupsModel", "hands1", "I", false)
  | 24 => ("TurningGroupsModel", "periods1", "I", false)
  | 25 => ("TurningGroupsModel", "period1", "[I", true)
  | 26 => ("TurningGroupsModel", "shelfFamily1", "[I", true)
  | 27 => ("TurningGroupsModel", "shelfN1", "[I", true)
  | 28 => ("TurningGroupsModel", "shelfHands1", "[I", true)
  | 29 => ("TurningGroupsModel", "shelfPeriods1", "[I", true)
  | 30 => ("TurningGroupsModel", "shelfPeriod1", "[I", true)
  | 31 => ("TurningGroupsModel", "digit", "[I", true)
  | 32 => ("TurningGroupsModel", "foundMany", "I", false)
  | _ => ("TurningGroupsModel", "foundAt", "I", false)
def tyX6 : Nat → FieldType := fun k => match k with
  | 0 => .int
  | 1 => .int
  | 2 => .int
  | 3 => .array .int
  | 4 => .int
  | 5 => .int
  | 6 => .array .int
  | 7 => .boolean
  | 8 => .int
  | 9 => .array .int
  | 10 => .array .int
  | 11 => .array .int
  | 12 => .array .int
  | 13 => .array .int
  | 14 => .int
  | 15 => .array .int
  | 16 => .array .int
  | 17 => .array .int
  | 18 => .array .int
  | 19 => .array .int
  | 20 => .boolean
  | 21 => .int
  | 22 => .int
  | 23 => .int
  | 24 => .int
  | 25 => .array .int
  | 26 => .array .int
  | 27 => .array .int
  | 28 => .array .int
  | 29 => .array .int
  | 30 => .array .int
  | 31 => .array .int
  | 32 => .int
  | _ => .int
abbrev wsX60 : List Cond := u_ws RX6 TX6 34
theorem nmX6 : ∀ a, a < 34 → ∀ b, b < 34 → a ≠ b → (TX6 a).2.1 ≠ (TX6 b).2.1 := by decide +kernel
theorem tyX6_ok : ∀ k, k < 34 → parseFieldDescriptor (TX6 k).2.2.1 = some (tyX6 k) := by decide +kernel
abbrev cX6_in : ByteArray := prog_8_method_1_code
def yX6_in : MethodName := ⟨RX6, "in", "(III)Z"⟩
abbrev cX6_sizeBy : ByteArray := prog_8_method_2_code
def yX6_sizeBy : MethodName := ⟨RX6, "sizeBy", "(II)I"⟩
abbrev cX6_mirrored : ByteArray := prog_8_method_3_code
def yX6_mirrored : MethodName := ⟨RX6, "mirrored", "(II)I"⟩
abbrev cX6_crossed : ByteArray := prog_8_method_4_code
def yX6_crossed : MethodName := ⟨RX6, "crossed", "(II)I"⟩
abbrev cX6_layTable : ByteArray := prog_8_method_5_code
def yX6_layTable : MethodName := ⟨RX6, "layTable", "()V"⟩
abbrev cX6_product : ByteArray := prog_8_method_6_code
def yX6_product : MethodName := ⟨RX6, "product", "(II)I"⟩
abbrev cX6_inverse : ByteArray := prog_8_method_7_code
def yX6_inverse : MethodName := ⟨RX6, "inverse", "(I)I"⟩
abbrev cX6_orderOf : ByteArray := prog_8_method_8_code
def yX6_orderOf : MethodName := ⟨RX6, "orderOf", "(I)I"⟩
abbrev cX6_turned : ByteArray := prog_8_method_9_code
def yX6_turned : MethodName := ⟨RX6, "turned", "(II)I"⟩
abbrev cX6_spanOf : ByteArray := prog_8_method_10_code
def yX6_spanOf : MethodName := ⟨RX6, "spanOf", "(I)I"⟩
abbrev cX6_isSet : ByteArray := prog_8_method_11_code
def yX6_isSet : MethodName := ⟨RX6, "isSet", "(I)Z"⟩
abbrev cX6_isSubgroup : ByteArray := prog_8_method_12_code
def yX6_isSubgroup : MethodName := ⟨RX6, "isSubgroup", "(I)Z"⟩
abbrev cX6_isNormal : ByteArray := prog_8_method_13_code
def yX6_isNormal : MethodName := ⟨RX6, "isNormal", "(I)Z"⟩
abbrev cX6_ones : ByteArray := prog_8_method_14_code
def yX6_ones : MethodName := ⟨RX6, "ones", "(I)I"⟩
abbrev cX6_init : ByteArray := prog_8_method_15_code
def yX6_init : MethodName := ⟨RX6, "<init>", "()V"⟩
abbrev cX6_group : ByteArray := prog_8_method_16_code
def yX6_group : MethodName := ⟨RX6, "group", "(II)I"⟩
abbrev cX6_isElement : ByteArray := prog_8_method_17_code
def yX6_isElement : MethodName := ⟨RX6, "isElement", "(I)Z"⟩
abbrev cX6_of : ByteArray := prog_8_method_18_code
def yX6_of : MethodName := ⟨RX6, "of", "(II)I"⟩
abbrev cX6_times : ByteArray := prog_8_method_19_code
def yX6_times : MethodName := ⟨RX6, "times", "(II)I"⟩
abbrev cX6_power : ByteArray := prog_8_method_20_code
def yX6_power : MethodName := ⟨RX6, "power", "(II)I"⟩
abbrev cX6_conjugate : ByteArray := prog_8_method_21_code
def yX6_conjugate : MethodName := ⟨RX6, "conjugate", "(II)I"⟩
abbrev cX6_span : ByteArray := prog_8_method_22_code
def yX6_span : MethodName := ⟨RX6, "span", "(I)I"⟩
abbrev cX6_subgroup : ByteArray := prog_8_method_23_code
def yX6_subgroup : MethodName := ⟨RX6, "subgroup", "(I)I"⟩
abbrev cX6_normal : ByteArray := prog_8_method_24_code
def yX6_normal : MethodName := ⟨RX6, "normal", "(I)I"⟩
abbrev cX6_centre : ByteArray := prog_8_method_25_code
def yX6_centre : MethodName := ⟨RX6, "centre", "(I)I"⟩
abbrev cX6_handles : ByteArray := prog_8_method_26_code
def yX6_handles : MethodName := ⟨RX6, "handles", "(I)I"⟩
abbrev cX6_period : ByteArray := prog_8_method_27_code
def yX6_period : MethodName := ⟨RX6, "period", "(I)I"⟩
abbrev cX6_drop : ByteArray := prog_8_method_28_code
def yX6_drop : MethodName := ⟨RX6, "drop", "()I"⟩
abbrev cX6_periodOf : ByteArray := prog_8_method_29_code
def yX6_periodOf : MethodName := ⟨RX6, "periodOf", "(I)I"⟩
abbrev cX6_length : ByteArray := prog_8_method_30_code
def yX6_length : MethodName := ⟨RX6, "length", "()I"⟩
abbrev cX6_tens : ByteArray := prog_8_method_31_code
def yX6_tens : MethodName := ⟨RX6, "tens", "(I)I"⟩
abbrev cX6_read : ByteArray := prog_8_method_32_code
def yX6_read : MethodName := ⟨RX6, "read", "(I)V"⟩
abbrev cX6_written : ByteArray := prog_8_method_33_code
def yX6_written : MethodName := ⟨RX6, "written", "()I"⟩
abbrev cX6_whatIs : ByteArray := prog_8_method_34_code
def yX6_whatIs : MethodName := ⟨RX6, "whatIs", "()I"⟩
abbrev cX6_codeIs : ByteArray := prog_8_method_35_code
def yX6_codeIs : MethodName := ⟨RX6, "codeIs", "(I)I"⟩
abbrev cX6_lay : ByteArray := prog_8_method_36_code
def yX6_lay : MethodName := ⟨RX6, "lay", "()V"⟩
abbrev cX6_placeOf : ByteArray := prog_8_method_37_code
def yX6_placeOf : MethodName := ⟨RX6, "placeOf", "(I)I"⟩
abbrev cX6_swap : ByteArray := prog_8_method_38_code
def yX6_swap : MethodName := ⟨RX6, "swap", "(I)V"⟩
abbrev cX6_isMove : ByteArray := prog_8_method_39_code
def yX6_isMove : MethodName := ⟨RX6, "isMove", "(I)Z"⟩
abbrev cX6_moved : ByteArray := prog_8_method_40_code
def yX6_moved : MethodName := ⟨RX6, "moved", "(II)I"⟩
abbrev cX6_spread : ByteArray := prog_8_method_41_code
def yX6_spread : MethodName := ⟨RX6, "spread", "(I)V"⟩
abbrev cX6_layClasses : ByteArray := prog_8_method_42_code
def yX6_layClasses : MethodName := ⟨RX6, "layClasses", "()V"⟩
abbrev cX6_classSize : ByteArray := prog_8_method_43_code
def yX6_classSize : MethodName := ⟨RX6, "classSize", "(I)I"⟩
abbrev cX6_map : ByteArray := prog_8_method_44_code
def yX6_map : MethodName := ⟨RX6, "map", "(I)I"⟩
abbrev cX6_row : ByteArray := prog_8_method_45_code
def yX6_row : MethodName := ⟨RX6, "row", "(I)I"⟩
abbrev cX6_genusOf : ByteArray := prog_8_method_46_code
def yX6_genusOf : MethodName := ⟨RX6, "genusOf", "()I"⟩
abbrev cX6_genus : ByteArray := prog_8_method_47_code
def yX6_genus : MethodName := ⟨RX6, "genus", "()I"⟩
abbrev cX6_leftOf : ByteArray := prog_8_method_48_code
def yX6_leftOf : MethodName := ⟨RX6, "leftOf", "(II)I"⟩
abbrev cX6_fixed : ByteArray := prog_8_method_49_code
def yX6_fixed : MethodName := ⟨RX6, "fixed", "(II)I"⟩
abbrev cX6_left : ByteArray := prog_8_method_50_code
def yX6_left : MethodName := ⟨RX6, "left", "(II)I"⟩
abbrev cX6_behind : ByteArray := prog_8_method_51_code
def yX6_behind : MethodName := ⟨RX6, "behind", "(III)I"⟩
abbrev cX6_move : ByteArray := prog_8_method_52_code
def yX6_move : MethodName := ⟨RX6, "move", "(II)I"⟩
abbrev cX6_classes : ByteArray := prog_8_method_53_code
def yX6_classes : MethodName := ⟨RX6, "classes", "(I)I"⟩
abbrev cX6_classOf : ByteArray := prog_8_method_54_code
def yX6_classOf : MethodName := ⟨RX6, "classOf", "(I)I"⟩
abbrev cX6_member : ByteArray := prog_8_method_55_code
def yX6_member : MethodName := ⟨RX6, "member", "(II)I"⟩
abbrev cX6_apart : ByteArray := prog_8_method_56_code
def yX6_apart : MethodName := ⟨RX6, "apart", "(II)I"⟩
abbrev cX6_hasMaps : ByteArray := prog_8_method_57_code
def yX6_hasMaps : MethodName := ⟨RX6, "hasMaps", "()Z"⟩
abbrev cX6_divides : ByteArray := prog_8_method_58_code
def yX6_divides : MethodName := ⟨RX6, "divides", "()Z"⟩
abbrev cX6_look : ByteArray := prog_8_method_59_code
def yX6_look : MethodName := ⟨RX6, "look", "(II)V"⟩
abbrev cX6_goesOn : ByteArray := prog_8_method_60_code
def yX6_goesOn : MethodName := ⟨RX6, "goesOn", "()Z"⟩
abbrev cX6_find : ByteArray := prog_8_method_61_code
def yX6_find : MethodName := ⟨RX6, "find", "(III)V"⟩
abbrev cX6_found : ByteArray := prog_8_method_62_code
def yX6_found : MethodName := ⟨RX6, "found", "(IIII)I"⟩
abbrev cX6_shelvesMany : ByteArray := prog_8_method_63_code
def yX6_shelvesMany : MethodName := ⟨RX6, "shelvesMany", "()I"⟩
abbrev cX6_keep : ByteArray := prog_8_method_64_code
def yX6_keep : MethodName := ⟨RX6, "keep", "(I)I"⟩
abbrev cX6_use : ByteArray := prog_8_method_65_code
def yX6_use : MethodName := ⟨RX6, "use", "(I)I"⟩
abbrev cX6_empty : ByteArray := prog_8_method_66_code
def yX6_empty : MethodName := ⟨RX6, "empty", "(I)I"⟩
abbrev cX6_areLike : ByteArray := prog_8_method_67_code
def yX6_areLike : MethodName := ⟨RX6, "areLike", "(II)Z"⟩
abbrev cX6_firstLike : ByteArray := prog_8_method_68_code
def yX6_firstLike : MethodName := ⟨RX6, "firstLike", "(I)I"⟩
abbrev cX6_like : ByteArray := prog_8_method_69_code
def yX6_like : MethodName := ⟨RX6, "like", "(I)I"⟩
abbrev cX6_unlike : ByteArray := prog_8_method_70_code
def yX6_unlike : MethodName := ⟨RX6, "unlike", "()I"⟩
abbrev cX6_image : ByteArray := prog_8_method_71_code
def yX6_image : MethodName := ⟨RX6, "image", "()I"⟩
abbrev cX6_back : ByteArray := prog_8_method_72_code
def yX6_back : MethodName := ⟨RX6, "back", "()I"⟩
abbrev cX6_count : ByteArray := prog_8_method_73_code
def yX6_count : MethodName := ⟨RX6, "count", "(I)I"⟩
def RJ6 : String := "java/lang/Integer"
def TJ6 : u_T := fun k => match k with
  | _ => ("", "", "", false)
def tyJ6 : Nat → FieldType := fun k => match k with
  | _ => .int
abbrev wsJ60 : List Cond := u_ws RJ6 TJ6 0
theorem nmJ6 : ∀ a, a < 0 → ∀ b, b < 0 → a ≠ b → (TJ6 a).2.1 ≠ (TJ6 b).2.1 := by decide +kernel
theorem tyJ6_ok : ∀ k, k < 0 → parseFieldDescriptor (TJ6 k).2.2.1 = some (tyJ6 k) := by decide +kernel
abbrev cJ6_bitCount_0f7a4 : ByteArray := prog_9_method_49_code
def yJ6_bitCount_0f7a4 : MethodName := ⟨RJ6, "bitCount", "(I)I"⟩
def RJ9 : String := "java/lang/Math"
def TJ9 : u_T := fun k => match k with
  | _ => ("", "", "", false)
def tyJ9 : Nat → FieldType := fun k => match k with
  | _ => .int
abbrev wsJ90 : List Cond := u_ws RJ9 TJ9 0
theorem nmJ9 : ∀ a, a < 0 → ∀ b, b < 0 → a ≠ b → (TJ9 a).2.1 ≠ (TJ9 b).2.1 := by decide +kernel
theorem tyJ9_ok : ∀ k, k < 0 → parseFieldDescriptor (TJ9 k).2.2.1 = some (tyJ9 k) := by decide +kernel
abbrev cJ9_max_7cf53 : ByteArray := prog_10_method_65_code
def yJ9_max_7cf53 : MethodName := ⟨RJ9, "max", "(II)I"⟩
abbrev cJ9_min_7cf53 : ByteArray := prog_10_method_69_code
def yJ9_min_7cf53 : MethodName := ⟨RJ9, "min", "(II)I"⟩
def RJ10 : String := "java/lang/System"
def TJ10 : u_T := fun k => match k with
  | _ => ("", "", "", false)
def tyJ10 : Nat → FieldType := fun k => match k with
  | _ => .int
abbrev wsJ100 : List Cond := u_ws RJ10 TJ10 0
theorem nmJ10 : ∀ a, a < 0 → ∀ b, b < 0 → a ≠ b → (TJ10 a).2.1 ≠ (TJ10 b).2.1 := by decide +kernel
theorem tyJ10_ok : ∀ k, k < 0 → parseFieldDescriptor (TJ10 k).2.2.1 = some (tyJ10 k) := by decide +kernel
def RJ7 : String := "java/util/Arrays"
def TJ7 : u_T := fun k => match k with
  | _ => ("", "", "", false)
def tyJ7 : Nat → FieldType := fun k => match k with
  | _ => .int
abbrev wsJ70 : List Cond := u_ws RJ7 TJ7 0
theorem nmJ7 : ∀ a, a < 0 → ∀ b, b < 0 → a ≠ b → (TJ7 a).2.1 ≠ (TJ7 b).2.1 := by decide +kernel
theorem tyJ7_ok : ∀ k, k < 0 → parseFieldDescriptor (TJ7 k).2.2.1 = some (tyJ7 k) := by decide +kernel
abbrev cJ7_fill_53178 : ByteArray := prog_12_method_103_code
def yJ7_fill_53178 : MethodName := ⟨RJ7, "fill", "([II)V"⟩
def RL : String := "TurningGroupsLaw"
abbrev cL_law : ByteArray := code
def yL_law : MethodName := ⟨RL, "law", "([I)Z"⟩
abbrev vwCl : List vw_C := [(RX0, TX0, 10), (RX1, TX1, 8), (RX2, TX2, 4), (RX3, TX3, 3), (RX4, TX4, 3), (RX5, TX5, 10), (RX6, TX6, 34)]
