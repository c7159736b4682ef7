section
-- ===== PART A: goes FIRST, ahead of the names: the tables' words, and 'selects' of the private methods out of them =====
/-- a private method of a class that the tables say can be made, by its rows of tables_1 -/
def lw_okq (q : MethodName × Nat) : Prop := (q.1.cls ≠ "java/lang/invoke/MethodHandle" ∧ q.1.cls ≠ "java/lang/invoke/VarHandle") ∧ Cond.instantiable q.1.cls q.2 ∈ tables_1 ∧ Cond.privateMethod q.1 ∈ tables_1 ∧ Cond.instanceMethod q.1 ∈ tables_1
theorem lw_p0 : lw_okq (⟨"java/lang/Throwable", "fillInStackTrace", "(I)Ljava/lang/Throwable;"⟩, 6) := ⟨⟨by decide +kernel, by decide +kernel⟩, List.mem_of_getElem? (i := 294) (by decide +kernel), List.mem_of_getElem? (i := 292) (by decide +kernel), List.mem_of_getElem? (i := 293) (by decide +kernel)⟩
theorem lw_p1 : lw_okq (⟨"TwinLinks$House", "slotBearing", "(I)I"⟩, 6) := ⟨⟨by decide +kernel, by decide +kernel⟩, List.mem_of_getElem? (i := 171) (by decide +kernel), List.mem_of_getElem? (i := 364) (by decide +kernel), List.mem_of_getElem? (i := 365) (by decide +kernel)⟩
theorem lw_p2 : lw_okq (⟨"TwinLinks", "needLink", "(I)V"⟩, 10) := ⟨⟨by decide +kernel, by decide +kernel⟩, List.mem_of_getElem? (i := 23) (by decide +kernel), List.mem_of_getElem? (i := 379) (by decide +kernel), List.mem_of_getElem? (i := 380) (by decide +kernel)⟩
theorem lw_p3 : lw_okq (⟨"TwinLinks", "slotThere", "(I)I"⟩, 10) := ⟨⟨by decide +kernel, by decide +kernel⟩, List.mem_of_getElem? (i := 23) (by decide +kernel), List.mem_of_getElem? (i := 389) (by decide +kernel), List.mem_of_getElem? (i := 390) (by decide +kernel)⟩
theorem lw_p4 : lw_okq (⟨"TwinLinks", "needKind", "(II)V"⟩, 10) := ⟨⟨by decide +kernel, by decide +kernel⟩, List.mem_of_getElem? (i := 23) (by decide +kernel), List.mem_of_getElem? (i := 418) (by decide +kernel), List.mem_of_getElem? (i := 419) (by decide +kernel)⟩
theorem lw_p5 : lw_okq (⟨"TwinLinks$Rows", "read", "(II)I"⟩, 2) := ⟨⟨by decide +kernel, by decide +kernel⟩, List.mem_of_getElem? (i := 177) (by decide +kernel), List.mem_of_getElem? (i := 467) (by decide +kernel), List.mem_of_getElem? (i := 468) (by decide +kernel)⟩
theorem lw_p6 : lw_okq (⟨"TwinLinks", "moveInRow", "(IIII)V"⟩, 10) := ⟨⟨by decide +kernel, by decide +kernel⟩, List.mem_of_getElem? (i := 23) (by decide +kernel), List.mem_of_getElem? (i := 472) (by decide +kernel), List.mem_of_getElem? (i := 473) (by decide +kernel)⟩
theorem lw_p7 : lw_okq (⟨"TwinLinks$Rows", "write", "(III)V"⟩, 2) := ⟨⟨by decide +kernel, by decide +kernel⟩, List.mem_of_getElem? (i := 177) (by decide +kernel), List.mem_of_getElem? (i := 501) (by decide +kernel), List.mem_of_getElem? (i := 502) (by decide +kernel)⟩
theorem lw_p8 : lw_okq (⟨"TwinLinks$Walk", "noteSteps", "(II)V"⟩, 4) := ⟨⟨by decide +kernel, by decide +kernel⟩, List.mem_of_getElem? (i := 67) (by decide +kernel), List.mem_of_getElem? (i := 536) (by decide +kernel), List.mem_of_getElem? (i := 537) (by decide +kernel)⟩
theorem lw_p9 : lw_okq (⟨"TwinLinks$Walk", "leastStep", "(LTwinLinks$House;II)I"⟩, 4) := ⟨⟨by decide +kernel, by decide +kernel⟩, List.mem_of_getElem? (i := 67) (by decide +kernel), List.mem_of_getElem? (i := 580) (by decide +kernel), List.mem_of_getElem? (i := 581) (by decide +kernel)⟩
theorem lw_p10 : lw_okq (⟨"TwinLinks", "joinNew", "(IIII)V"⟩, 10) := ⟨⟨by decide +kernel, by decide +kernel⟩, List.mem_of_getElem? (i := 23) (by decide +kernel), List.mem_of_getElem? (i := 601) (by decide +kernel), List.mem_of_getElem? (i := 602) (by decide +kernel)⟩
theorem lw_p11 : lw_okq (⟨"TwinLinks$Leaving", "addThoseWithoutOwner", "(LTwinLinks$House;)V"⟩, 5) := ⟨⟨by decide +kernel, by decide +kernel⟩, List.mem_of_getElem? (i := 103) (by decide +kernel), List.mem_of_getElem? (i := 654) (by decide +kernel), List.mem_of_getElem? (i := 655) (by decide +kernel)⟩
theorem lw_p12 : lw_okq (⟨"TwinLinks$Leaving", "areOwnersGone", "()Z"⟩, 5) := ⟨⟨by decide +kernel, by decide +kernel⟩, List.mem_of_getElem? (i := 103) (by decide +kernel), List.mem_of_getElem? (i := 659) (by decide +kernel), List.mem_of_getElem? (i := 660) (by decide +kernel)⟩
theorem lw_p13 : lw_okq (⟨"TwinLinks$Leaving", "isBefore", "(LTwinLinks$House;II)Z"⟩, 5) := ⟨⟨by decide +kernel, by decide +kernel⟩, List.mem_of_getElem? (i := 103) (by decide +kernel), List.mem_of_getElem? (i := 678) (by decide +kernel), List.mem_of_getElem? (i := 679) (by decide +kernel)⟩
theorem lw_p14 : lw_okq (⟨"TwinLinks$House", "separateAll", "(II)V"⟩, 6) := ⟨⟨by decide +kernel, by decide +kernel⟩, List.mem_of_getElem? (i := 171) (by decide +kernel), List.mem_of_getElem? (i := 696) (by decide +kernel), List.mem_of_getElem? (i := 697) (by decide +kernel)⟩
theorem lw_p15 : lw_okq (⟨"TwinLinks$Twins", "leastMissing", "(LTwinLinks$House;LTwinLinks$Slots;)I"⟩, 4) := ⟨⟨by decide +kernel, by decide +kernel⟩, List.mem_of_getElem? (i := 127) (by decide +kernel), List.mem_of_getElem? (i := 718) (by decide +kernel), List.mem_of_getElem? (i := 719) (by decide +kernel)⟩
def lw_privs_1 : List (MethodName × Nat) := [(⟨"java/lang/Throwable", "fillInStackTrace", "(I)Ljava/lang/Throwable;"⟩, 6), (⟨"TwinLinks$House", "slotBearing", "(I)I"⟩, 6), (⟨"TwinLinks", "needLink", "(I)V"⟩, 10), (⟨"TwinLinks", "slotThere", "(I)I"⟩, 10), (⟨"TwinLinks", "needKind", "(II)V"⟩, 10), (⟨"TwinLinks$Rows", "read", "(II)I"⟩, 2), (⟨"TwinLinks", "moveInRow", "(IIII)V"⟩, 10), (⟨"TwinLinks$Rows", "write", "(III)V"⟩, 2), (⟨"TwinLinks$Walk", "noteSteps", "(II)V"⟩, 4), (⟨"TwinLinks$Walk", "leastStep", "(LTwinLinks$House;II)I"⟩, 4), (⟨"TwinLinks", "joinNew", "(IIII)V"⟩, 10), (⟨"TwinLinks$Leaving", "addThoseWithoutOwner", "(LTwinLinks$House;)V"⟩, 5), (⟨"TwinLinks$Leaving", "areOwnersGone", "()Z"⟩, 5), (⟨"TwinLinks$Leaving", "isBefore", "(LTwinLinks$House;II)Z"⟩, 5), (⟨"TwinLinks$House", "separateAll", "(II)V"⟩, 6), (⟨"TwinLinks$Twins", "leastMissing", "(LTwinLinks$House;LTwinLinks$Slots;)I"⟩, 4)]
theorem lw_r1 : ∀ q ∈ lw_privs_1, lw_okq q := List.forall_mem_cons.mpr ⟨lw_p0, List.forall_mem_cons.mpr ⟨lw_p1, List.forall_mem_cons.mpr ⟨lw_p2, List.forall_mem_cons.mpr ⟨lw_p3, List.forall_mem_cons.mpr ⟨lw_p4, List.forall_mem_cons.mpr ⟨lw_p5, List.forall_mem_cons.mpr ⟨lw_p6, List.forall_mem_cons.mpr ⟨lw_p7, List.forall_mem_cons.mpr ⟨lw_p8, List.forall_mem_cons.mpr ⟨lw_p9, List.forall_mem_cons.mpr ⟨lw_p10, List.forall_mem_cons.mpr ⟨lw_p11, List.forall_mem_cons.mpr ⟨lw_p12, List.forall_mem_cons.mpr ⟨lw_p13, List.forall_mem_cons.mpr ⟨lw_p14, List.forall_mem_cons.mpr ⟨lw_p15, fun _ h => absurd h List.not_mem_nil⟩⟩⟩⟩⟩⟩⟩⟩⟩⟩⟩⟩⟩⟩⟩⟩
theorem lw_p16 : lw_okq (⟨"TwinLinks$Twins", "keepsOutsiders", "(I)Z"⟩, 4) := ⟨⟨by decide +kernel, by decide +kernel⟩, List.mem_of_getElem? (i := 127) (by decide +kernel), List.mem_of_getElem? (i := 732) (by decide +kernel), List.mem_of_getElem? (i := 733) (by decide +kernel)⟩
theorem lw_p17 : lw_okq (⟨"TwinLinks$Twins", "howManyOldHave", "(LTwinLinks$House;II)I"⟩, 4) := ⟨⟨by decide +kernel, by decide +kernel⟩, List.mem_of_getElem? (i := 127) (by decide +kernel), List.mem_of_getElem? (i := 738) (by decide +kernel), List.mem_of_getElem? (i := 739) (by decide +kernel)⟩
theorem lw_p18 : lw_okq (⟨"TwinLinks$Twins", "copyHas", "(LTwinLinks$House;II)V"⟩, 4) := ⟨⟨by decide +kernel, by decide +kernel⟩, List.mem_of_getElem? (i := 127) (by decide +kernel), List.mem_of_getElem? (i := 753) (by decide +kernel), List.mem_of_getElem? (i := 754) (by decide +kernel)⟩
theorem lw_p19 : lw_okq (⟨"TwinLinks$Twins", "standIn", "(II)I"⟩, 4) := ⟨⟨by decide +kernel, by decide +kernel⟩, List.mem_of_getElem? (i := 127) (by decide +kernel), List.mem_of_getElem? (i := 757) (by decide +kernel), List.mem_of_getElem? (i := 758) (by decide +kernel)⟩
theorem lw_p20 : lw_okq (⟨"TwinLinks$Twins", "copyHad", "(LTwinLinks$House;II)V"⟩, 4) := ⟨⟨by decide +kernel, by decide +kernel⟩, List.mem_of_getElem? (i := 127) (by decide +kernel), List.mem_of_getElem? (i := 769) (by decide +kernel), List.mem_of_getElem? (i := 770) (by decide +kernel)⟩
theorem lw_p21 : lw_okq (⟨"TwinLinks$Groups", "demand", "(II)V"⟩, 5) := ⟨⟨by decide +kernel, by decide +kernel⟩, List.mem_of_getElem? (i := 148) (by decide +kernel), List.mem_of_getElem? (i := 789) (by decide +kernel), List.mem_of_getElem? (i := 790) (by decide +kernel)⟩
theorem lw_p22 : lw_okq (⟨"TwinLinks$Groups", "matchPair", "(LTwinLinks$House;II)Z"⟩, 5) := ⟨⟨by decide +kernel, by decide +kernel⟩, List.mem_of_getElem? (i := 148) (by decide +kernel), List.mem_of_getElem? (i := 794) (by decide +kernel), List.mem_of_getElem? (i := 795) (by decide +kernel)⟩
theorem lw_p23 : lw_okq (⟨"TwinLinks$Groups", "matchRows", "(LTwinLinks$Rows;III)Z"⟩, 5) := ⟨⟨by decide +kernel, by decide +kernel⟩, List.mem_of_getElem? (i := 148) (by decide +kernel), List.mem_of_getElem? (i := 802) (by decide +kernel), List.mem_of_getElem? (i := 803) (by decide +kernel)⟩
theorem lw_p24 : lw_okq (⟨"TwinLinks", "numberInRow", "(LTwinLinks$Rows;III)I"⟩, 10) := ⟨⟨by decide +kernel, by decide +kernel⟩, List.mem_of_getElem? (i := 23) (by decide +kernel), List.mem_of_getElem? (i := 815) (by decide +kernel), List.mem_of_getElem? (i := 816) (by decide +kernel)⟩
theorem lw_p25 : lw_okq (⟨"TwinLinksModel", "fails", "(I)Z"⟩, 31) := ⟨⟨by decide +kernel, by decide +kernel⟩, List.mem_of_getElem? (i := 924) (by decide +kernel), List.mem_of_getElem? (i := 1028) (by decide +kernel), List.mem_of_getElem? (i := 1029) (by decide +kernel)⟩
theorem lw_p26 : lw_okq (⟨"TwinLinksModel", "fresh", "(I)I"⟩, 31) := ⟨⟨by decide +kernel, by decide +kernel⟩, List.mem_of_getElem? (i := 924) (by decide +kernel), List.mem_of_getElem? (i := 1036) (by decide +kernel), List.mem_of_getElem? (i := 1037) (by decide +kernel)⟩
theorem lw_p27 : lw_okq (⟨"TwinLinksModel", "wrong", "(III)I"⟩, 31) := ⟨⟨by decide +kernel, by decide +kernel⟩, List.mem_of_getElem? (i := 924) (by decide +kernel), List.mem_of_getElem? (i := 1044) (by decide +kernel), List.mem_of_getElem? (i := 1045) (by decide +kernel)⟩
theorem lw_p28 : lw_okq (⟨"TwinLinksModel", "isLink", "(I)Z"⟩, 31) := ⟨⟨by decide +kernel, by decide +kernel⟩, List.mem_of_getElem? (i := 924) (by decide +kernel), List.mem_of_getElem? (i := 1048) (by decide +kernel), List.mem_of_getElem? (i := 1049) (by decide +kernel)⟩
theorem lw_p29 : lw_okq (⟨"TwinLinksModel", "placeOf", "(I)I"⟩, 31) := ⟨⟨by decide +kernel, by decide +kernel⟩, List.mem_of_getElem? (i := 924) (by decide +kernel), List.mem_of_getElem? (i := 1052) (by decide +kernel), List.mem_of_getElem? (i := 1053) (by decide +kernel)⟩
theorem lw_p30 : lw_okq (⟨"TwinLinksModel", "indexIn", "([I[III)I"⟩, 31) := ⟨⟨by decide +kernel, by decide +kernel⟩, List.mem_of_getElem? (i := 924) (by decide +kernel), List.mem_of_getElem? (i := 1056) (by decide +kernel), List.mem_of_getElem? (i := 1057) (by decide +kernel)⟩
theorem lw_p31 : lw_okq (⟨"TwinLinksModel", "remove", "([I[III)V"⟩, 31) := ⟨⟨by decide +kernel, by decide +kernel⟩, List.mem_of_getElem? (i := 924) (by decide +kernel), List.mem_of_getElem? (i := 1060) (by decide +kernel), List.mem_of_getElem? (i := 1061) (by decide +kernel)⟩
def lw_privs_2 : List (MethodName × Nat) := [(⟨"TwinLinks$Twins", "keepsOutsiders", "(I)Z"⟩, 4), (⟨"TwinLinks$Twins", "howManyOldHave", "(LTwinLinks$House;II)I"⟩, 4), (⟨"TwinLinks$Twins", "copyHas", "(LTwinLinks$House;II)V"⟩, 4), (⟨"TwinLinks$Twins", "standIn", "(II)I"⟩, 4), (⟨"TwinLinks$Twins", "copyHad", "(LTwinLinks$House;II)V"⟩, 4), (⟨"TwinLinks$Groups", "demand", "(II)V"⟩, 5), (⟨"TwinLinks$Groups", "matchPair", "(LTwinLinks$House;II)Z"⟩, 5), (⟨"TwinLinks$Groups", "matchRows", "(LTwinLinks$Rows;III)Z"⟩, 5), (⟨"TwinLinks", "numberInRow", "(LTwinLinks$Rows;III)I"⟩, 10), (⟨"TwinLinksModel", "fails", "(I)Z"⟩, 31), (⟨"TwinLinksModel", "fresh", "(I)I"⟩, 31), (⟨"TwinLinksModel", "wrong", "(III)I"⟩, 31), (⟨"TwinLinksModel", "isLink", "(I)Z"⟩, 31), (⟨"TwinLinksModel", "placeOf", "(I)I"⟩, 31), (⟨"TwinLinksModel", "indexIn", "([I[III)I"⟩, 31), (⟨"TwinLinksModel", "remove", "([I[III)V"⟩, 31)]
theorem lw_r2 : ∀ q ∈ lw_privs_2, lw_okq q := List.forall_mem_cons.mpr ⟨lw_p16, List.forall_mem_cons.mpr ⟨lw_p17, List.forall_mem_cons.mpr ⟨lw_p18, List.forall_mem_cons.mpr ⟨lw_p19, List.forall_mem_cons.mpr ⟨lw_p20, List.forall_mem_cons.mpr ⟨lw_p21, List.forall_mem_cons.mpr ⟨lw_p22, List.forall_mem_cons.mpr ⟨lw_p23, List.forall_mem_cons.mpr ⟨lw_p24, List.forall_mem_cons.mpr ⟨lw_p25, List.forall_mem_cons.mpr ⟨lw_p26, List.forall_mem_cons.mpr ⟨lw_p27, List.forall_mem_cons.mpr ⟨lw_p28, List.forall_mem_cons.mpr ⟨lw_p29, List.forall_mem_cons.mpr ⟨lw_p30, List.forall_mem_cons.mpr ⟨lw_p31, fun _ h => absurd h List.not_mem_nil⟩⟩⟩⟩⟩⟩⟩⟩⟩⟩⟩⟩⟩⟩⟩⟩
theorem lw_p32 : lw_okq (⟨"TwinLinksModel", "insert", "([I[IIII)V"⟩, 31) := ⟨⟨by decide +kernel, by decide +kernel⟩, List.mem_of_getElem? (i := 924) (by decide +kernel), List.mem_of_getElem? (i := 1064) (by decide +kernel), List.mem_of_getElem? (i := 1065) (by decide +kernel)⟩
theorem lw_p33 : lw_okq (⟨"TwinLinksModel", "measure", "(IZ)V"⟩, 31) := ⟨⟨by decide +kernel, by decide +kernel⟩, List.mem_of_getElem? (i := 924) (by decide +kernel), List.mem_of_getElem? (i := 1068) (by decide +kernel), List.mem_of_getElem? (i := 1069) (by decide +kernel)⟩
theorem lw_p34 : lw_okq (⟨"TwinLinksModel", "walk", "(I)V"⟩, 31) := ⟨⟨by decide +kernel, by decide +kernel⟩, List.mem_of_getElem? (i := 924) (by decide +kernel), List.mem_of_getElem? (i := 1072) (by decide +kernel), List.mem_of_getElem? (i := 1073) (by decide +kernel)⟩
theorem lw_p35 : lw_okq (⟨"TwinLinksModel", "add", "(I)V"⟩, 31) := ⟨⟨by decide +kernel, by decide +kernel⟩, List.mem_of_getElem? (i := 924) (by decide +kernel), List.mem_of_getElem? (i := 1076) (by decide +kernel), List.mem_of_getElem? (i := 1077) (by decide +kernel)⟩
theorem lw_p36 : lw_okq (⟨"TwinLinksModel", "part", "(III)V"⟩, 31) := ⟨⟨by decide +kernel, by decide +kernel⟩, List.mem_of_getElem? (i := 924) (by decide +kernel), List.mem_of_getElem? (i := 1080) (by decide +kernel), List.mem_of_getElem? (i := 1081) (by decide +kernel)⟩
theorem lw_p37 : lw_okq (⟨"TwinLinksModel", "isHad", "(III)Z"⟩, 31) := ⟨⟨by decide +kernel, by decide +kernel⟩, List.mem_of_getElem? (i := 924) (by decide +kernel), List.mem_of_getElem? (i := 1088) (by decide +kernel), List.mem_of_getElem? (i := 1089) (by decide +kernel)⟩
theorem lw_p38 : lw_okq (⟨"TwinLinksModel", "goesToo", "(I)Z"⟩, 31) := ⟨⟨by decide +kernel, by decide +kernel⟩, List.mem_of_getElem? (i := 924) (by decide +kernel), List.mem_of_getElem? (i := 1096) (by decide +kernel), List.mem_of_getElem? (i := 1097) (by decide +kernel)⟩
theorem lw_p39 : lw_okq (⟨"TwinLinksModel", "firstBarred", "(I)I"⟩, 31) := ⟨⟨by decide +kernel, by decide +kernel⟩, List.mem_of_getElem? (i := 924) (by decide +kernel), List.mem_of_getElem? (i := 1100) (by decide +kernel), List.mem_of_getElem? (i := 1101) (by decide +kernel)⟩
theorem lw_p40 : lw_okq (⟨"TwinLinksModel", "barred", "(I)I"⟩, 31) := ⟨⟨by decide +kernel, by decide +kernel⟩, List.mem_of_getElem? (i := 924) (by decide +kernel), List.mem_of_getElem? (i := 1104) (by decide +kernel), List.mem_of_getElem? (i := 1105) (by decide +kernel)⟩
theorem lw_p41 : lw_okq (⟨"TwinLinksModel", "erase", "(I)V"⟩, 31) := ⟨⟨by decide +kernel, by decide +kernel⟩, List.mem_of_getElem? (i := 924) (by decide +kernel), List.mem_of_getElem? (i := 1108) (by decide +kernel), List.mem_of_getElem? (i := 1109) (by decide +kernel)⟩
theorem lw_p42 : lw_okq (⟨"TwinLinksModel", "markUnder", "(I)I"⟩, 31) := ⟨⟨by decide +kernel, by decide +kernel⟩, List.mem_of_getElem? (i := 924) (by decide +kernel), List.mem_of_getElem? (i := 1116) (by decide +kernel), List.mem_of_getElem? (i := 1117) (by decide +kernel)⟩
theorem lw_p43 : lw_okq (⟨"TwinLinksModel", "isCrowded", "(I)Z"⟩, 31) := ⟨⟨by decide +kernel, by decide +kernel⟩, List.mem_of_getElem? (i := 924) (by decide +kernel), List.mem_of_getElem? (i := 1120) (by decide +kernel), List.mem_of_getElem? (i := 1121) (by decide +kernel)⟩
theorem lw_p44 : lw_okq (⟨"TwinLinksModel", "copyRow", "(II)V"⟩, 31) := ⟨⟨by decide +kernel, by decide +kernel⟩, List.mem_of_getElem? (i := 924) (by decide +kernel), List.mem_of_getElem? (i := 1124) (by decide +kernel), List.mem_of_getElem? (i := 1125) (by decide +kernel)⟩
theorem lw_p45 : lw_okq (⟨"TwinLinksModel", "copyBack", "(II)V"⟩, 31) := ⟨⟨by decide +kernel, by decide +kernel⟩, List.mem_of_getElem? (i := 924) (by decide +kernel), List.mem_of_getElem? (i := 1128) (by decide +kernel), List.mem_of_getElem? (i := 1129) (by decide +kernel)⟩
theorem lw_p46 : lw_okq (⟨"TwinLinksModel", "copyBeside", "(II)V"⟩, 31) := ⟨⟨by decide +kernel, by decide +kernel⟩, List.mem_of_getElem? (i := 924) (by decide +kernel), List.mem_of_getElem? (i := 1132) (by decide +kernel), List.mem_of_getElem? (i := 1133) (by decide +kernel)⟩
theorem lw_p47 : lw_okq (⟨"TwinLinksModel", "isAlikeAtOnce", "(II)Z"⟩, 31) := ⟨⟨by decide +kernel, by decide +kernel⟩, List.mem_of_getElem? (i := 924) (by decide +kernel), List.mem_of_getElem? (i := 1140) (by decide +kernel), List.mem_of_getElem? (i := 1141) (by decide +kernel)⟩
def lw_privs_3 : List (MethodName × Nat) := [(⟨"TwinLinksModel", "insert", "([I[IIII)V"⟩, 31), (⟨"TwinLinksModel", "measure", "(IZ)V"⟩, 31), (⟨"TwinLinksModel", "walk", "(I)V"⟩, 31), (⟨"TwinLinksModel", "add", "(I)V"⟩, 31), (⟨"TwinLinksModel", "part", "(III)V"⟩, 31), (⟨"TwinLinksModel", "isHad", "(III)Z"⟩, 31), (⟨"TwinLinksModel", "goesToo", "(I)Z"⟩, 31), (⟨"TwinLinksModel", "firstBarred", "(I)I"⟩, 31), (⟨"TwinLinksModel", "barred", "(I)I"⟩, 31), (⟨"TwinLinksModel", "erase", "(I)V"⟩, 31), (⟨"TwinLinksModel", "markUnder", "(I)I"⟩, 31), (⟨"TwinLinksModel", "isCrowded", "(I)Z"⟩, 31), (⟨"TwinLinksModel", "copyRow", "(II)V"⟩, 31), (⟨"TwinLinksModel", "copyBack", "(II)V"⟩, 31), (⟨"TwinLinksModel", "copyBeside", "(II)V"⟩, 31), (⟨"TwinLinksModel", "isAlikeAtOnce", "(II)Z"⟩, 31)]
theorem lw_r3 : ∀ q ∈ lw_privs_3, lw_okq q := List.forall_mem_cons.mpr ⟨lw_p32, List.forall_mem_cons.mpr ⟨lw_p33, List.forall_mem_cons.mpr ⟨lw_p34, List.forall_mem_cons.mpr ⟨lw_p35, List.forall_mem_cons.mpr ⟨lw_p36, List.forall_mem_cons.mpr ⟨lw_p37, List.forall_mem_cons.mpr ⟨lw_p38, List.forall_mem_cons.mpr ⟨lw_p39, List.forall_mem_cons.mpr ⟨lw_p40, List.forall_mem_cons.mpr ⟨lw_p41, List.forall_mem_cons.mpr ⟨lw_p42, List.forall_mem_cons.mpr ⟨lw_p43, List.forall_mem_cons.mpr ⟨lw_p44, List.forall_mem_cons.mpr ⟨lw_p45, List.forall_mem_cons.mpr ⟨lw_p46, List.forall_mem_cons.mpr ⟨lw_p47, fun _ h => absurd h List.not_mem_nil⟩⟩⟩⟩⟩⟩⟩⟩⟩⟩⟩⟩⟩⟩⟩⟩
theorem lw_p48 : lw_okq (⟨"TwinLinksModel", "openPart", "(II)I"⟩, 31) := ⟨⟨by decide +kernel, by decide +kernel⟩, List.mem_of_getElem? (i := 924) (by decide +kernel), List.mem_of_getElem? (i := 1144) (by decide +kernel), List.mem_of_getElem? (i := 1145) (by decide +kernel)⟩
theorem lw_p49 : lw_okq (⟨"TwinLinksModel", "owners", "(I)I"⟩, 31) := ⟨⟨by decide +kernel, by decide +kernel⟩, List.mem_of_getElem? (i := 924) (by decide +kernel), List.mem_of_getElem? (i := 1160) (by decide +kernel), List.mem_of_getElem? (i := 1161) (by decide +kernel)⟩
theorem lw_p50 : lw_okq (⟨"TwinLinksModel", "owns", "(II)Z"⟩, 31) := ⟨⟨by decide +kernel, by decide +kernel⟩, List.mem_of_getElem? (i := 924) (by decide +kernel), List.mem_of_getElem? (i := 1164) (by decide +kernel), List.mem_of_getElem? (i := 1165) (by decide +kernel)⟩
theorem lw_p51 : lw_okq (⟨"TwinLinksModel", "depth", "(I)I"⟩, 31) := ⟨⟨by decide +kernel, by decide +kernel⟩, List.mem_of_getElem? (i := 924) (by decide +kernel), List.mem_of_getElem? (i := 1168) (by decide +kernel), List.mem_of_getElem? (i := 1169) (by decide +kernel)⟩
theorem lw_p52 : lw_okq (⟨"TwinLinksModel", "owned", "(I)I"⟩, 31) := ⟨⟨by decide +kernel, by decide +kernel⟩, List.mem_of_getElem? (i := 924) (by decide +kernel), List.mem_of_getElem? (i := 1172) (by decide +kernel), List.mem_of_getElem? (i := 1173) (by decide +kernel)⟩
theorem lw_p53 : lw_okq (⟨"TwinLinksModel", "near", "(I)I"⟩, 31) := ⟨⟨by decide +kernel, by decide +kernel⟩, List.mem_of_getElem? (i := 924) (by decide +kernel), List.mem_of_getElem? (i := 1176) (by decide +kernel), List.mem_of_getElem? (i := 1177) (by decide +kernel)⟩
theorem lw_p54 : lw_okq (⟨"TwinLinksModel", "keep", "(I)V"⟩, 31) := ⟨⟨by decide +kernel, by decide +kernel⟩, List.mem_of_getElem? (i := 924) (by decide +kernel), List.mem_of_getElem? (i := 1196) (by decide +kernel), List.mem_of_getElem? (i := 1197) (by decide +kernel)⟩
theorem lw_p55 : lw_okq (⟨"TwinLinksModel", "keepRows", "(I)V"⟩, 31) := ⟨⟨by decide +kernel, by decide +kernel⟩, List.mem_of_getElem? (i := 924) (by decide +kernel), List.mem_of_getElem? (i := 1203) (by decide +kernel), List.mem_of_getElem? (i := 1204) (by decide +kernel)⟩
theorem lw_p56 : lw_okq (⟨"TwinLinksModel", "takeBack", "()V"⟩, 31) := ⟨⟨by decide +kernel, by decide +kernel⟩, List.mem_of_getElem? (i := 924) (by decide +kernel), List.mem_of_getElem? (i := 1211) (by decide +kernel), List.mem_of_getElem? (i := 1212) (by decide +kernel)⟩
theorem lw_p57 : lw_okq (⟨"TwinLinksModel", "next", "()I"⟩, 31) := ⟨⟨by decide +kernel, by decide +kernel⟩, List.mem_of_getElem? (i := 924) (by decide +kernel), List.mem_of_getElem? (i := 1215) (by decide +kernel), List.mem_of_getElem? (i := 1216) (by decide +kernel)⟩
theorem lw_p58 : lw_okq (⟨"TwinLinksModel", "readRows", "(I)V"⟩, 31) := ⟨⟨by decide +kernel, by decide +kernel⟩, List.mem_of_getElem? (i := 924) (by decide +kernel), List.mem_of_getElem? (i := 1219) (by decide +kernel), List.mem_of_getElem? (i := 1220) (by decide +kernel)⟩
def lw_privs_4 : List (MethodName × Nat) := [(⟨"TwinLinksModel", "openPart", "(II)I"⟩, 31), (⟨"TwinLinksModel", "owners", "(I)I"⟩, 31), (⟨"TwinLinksModel", "owns", "(II)Z"⟩, 31), (⟨"TwinLinksModel", "depth", "(I)I"⟩, 31), (⟨"TwinLinksModel", "owned", "(I)I"⟩, 31), (⟨"TwinLinksModel", "near", "(I)I"⟩, 31), (⟨"TwinLinksModel", "keep", "(I)V"⟩, 31), (⟨"TwinLinksModel", "keepRows", "(I)V"⟩, 31), (⟨"TwinLinksModel", "takeBack", "()V"⟩, 31), (⟨"TwinLinksModel", "next", "()I"⟩, 31), (⟨"TwinLinksModel", "readRows", "(I)V"⟩, 31)]
theorem lw_r4 : ∀ q ∈ lw_privs_4, lw_okq q := List.forall_mem_cons.mpr ⟨lw_p48, List.forall_mem_cons.mpr ⟨lw_p49, List.forall_mem_cons.mpr ⟨lw_p50, List.forall_mem_cons.mpr ⟨lw_p51, List.forall_mem_cons.mpr ⟨lw_p52, List.forall_mem_cons.mpr ⟨lw_p53, List.forall_mem_cons.mpr ⟨lw_p54, List.forall_mem_cons.mpr ⟨lw_p55, List.forall_mem_cons.mpr ⟨lw_p56, List.forall_mem_cons.mpr ⟨lw_p57, List.forall_mem_cons.mpr ⟨lw_p58, fun _ h => absurd h List.not_mem_nil⟩⟩⟩⟩⟩⟩⟩⟩⟩⟩⟩
def lw_privs : List (MethodName × Nat) := lw_privs_1 ++ (lw_privs_2 ++ (lw_privs_3 ++ (lw_privs_4)))
def lw_tbl : List Cond := k2_sels lw_privs ++ tables_1
theorem lw_privs_ok : ∀ q ∈ lw_privs, lw_okq q := by
  show ∀ q ∈ lw_privs_1 ++ (lw_privs_2 ++ (lw_privs_3 ++ (lw_privs_4))), lw_okq q
  exact List.forall_mem_append.mpr ⟨lw_r1, List.forall_mem_append.mpr ⟨lw_r2, List.forall_mem_append.mpr ⟨lw_r3, lw_r4⟩⟩⟩
end
section
/-! ===== BEGIN words of one list among another's, by their places ===== -/
theorem goodIn_r {big : List Cond} (ws : List Cond) (ps : List Nat) (hp : ws = ps.filterMap (fun i => big[i]?)) (h : ws.all goodWord = true) : GoodIn big ws := by
  intro w hw
  have h1 := List.all_eq_true.mp h w hw
  rw [hp] at hw
  obtain ⟨i, -, hi⟩ := List.mem_filterMap.mp hw
  have hm : w ∈ big := by first | exact List.mem_of_getElem? hi | exact List.getElem?_mem hi
  exact ⟨hm, good_of_word h1⟩
theorem goodIn_app {big a b : List Cond} (ha : GoodIn big a) (hb : GoodIn big b) : GoodIn big (a ++ b) := fun w h => (List.mem_append.mp h).elim (ha w) (hb w)
theorem goodIn_ca {big a b : List Cond} {c : Cond} (ha : GoodIn big (c :: a)) (hb : GoodIn big b) : GoodIn big (c :: (a ++ b)) := fun w h => (List.mem_cons.mp h).elim (fun e => ha w (List.mem_cons.mpr (Or.inl e))) (fun h => (List.mem_append.mp h).elim (fun h => ha w (List.mem_cons.mpr (Or.inr h))) (hb w))
theorem goodIn_sub {big ws : List Cond} (hm : ∀ w ∈ ws, w ∈ big) (h : ws.all goodWord = true) : GoodIn big ws := fun w hw => ⟨hm w hw, good_of_word (List.all_eq_true.mp h w hw)⟩
/-! ===== END ===== -/

/-! ===== BEGIN exceptions that leave a method, and their catching by the caller (launches without stack traces) ===== -/
section VXA
/-! The laws vx_back, vx_callV, vx_callS, vx_callSW, vx_throw0, vx_throwS follow proofs of the library, with one case more: JvmDerived/Free/Laws.lean (Back.of_free), Shelf42/LK1.lean (callV, callS), Shelf/KitTraced.lean (throwNew0V, throwNewS). -/
/-- where a method has thrown q: the class by its name, the cell, what was written, the world -/
def vx_T (XC : String → State → State → Prop) (st : State) (q : Addr) (t : State) (mc ms : Nat) (free : Addr → Prop) : Prop :=
  ∃ (E : String) (ce : Cell) (L : List Loc), XC E st t ∧ t.heap[q]? = some ce ∧ ce.vm = .none ∧ st.vm.findClass E = some ce.cls ∧ st.WarmedH t.vm ∧ st.sameButNew ({ t with vm := st.vm } : State) L mc ms ∧ ∀ z ∈ L, free z.base
def vx_Q (Qc : Array Value → State → Outcome → State → Prop) (XC : String → State → State → Prop) (mc ms : Nat) (free : Addr → Prop) : Array Value → State → Outcome → State → Prop := fun a st o t =>
  (Qc a st o t ∧ ∃ L, FrameEnd st o t L mc ms ∧ ∀ q ∈ L, free q.base) ∨ ∃ q, o = .threw q ∧ vx_T XC st q t mc ms free
/-- a callee that returns or throws -/
def vx_Met (l : Launch) (y : MethodName) (ws : List Cond) (rm : Room) (Pc : Array Value → State → Prop) (Qc : Array Value → State → Outcome → State → Prop) (XC : String → State → State → Prop) (mc ms : Nat) (free : Addr → Prop) : Prop :=
  MetFree l y (headSpec ws rm) Pc (fun _ _ _ _ _ => True) (vx_Q Qc XC mc ms free)
def vx_Post (XC : String → State → State → Prop) (mc ms : Nat) (free : Addr → Prop) : Pt → Array Value → Addr → Pt → Prop := fun A a q B =>
  ∃ (g : JFrame) (mk : MethodId) (t : State) (L : List Loc) (E : String) (ce : Cell), B.U.heap = t.heap ∧ B.U.vm = t.vm ∧ XC E (A.U.calling g mk a) t ∧ t.heap[q]? = some ce ∧ ce.vm = .none ∧ A.U.vm.findClass E = some ce.cls ∧ B.locs = A.locs ++ L ∧ (∀ z ∈ L, free z.base) ∧ B.cells = A.cells + mc ∧ B.slots = A.slots + ms
def vx_Back (l : Launch) (R : Room) (p : Program) (e : Env) (below : List Frame) (s : State) (sargs : Array Value) (y : MethodName) (len W9 : Nat)
    (Pre : Pt → Array Value → Prop) (Post : Pt → Array Value → Option Value → Pt → Prop) (PostX : Pt → Array Value → Addr → Pt → Prop) : Prop :=
  ∀ (m : MethodId) (meth : Method) (c : Code) (A : Pt) (g : JFrame) (ig : Instr) (mk : MethodId) (a : Array Value),
    Stand p l e R s m sargs below meth c A.U A.locs A.cells A.slots → g.method = m → g.locals.size = c.maxLocals → decode c.code g.pc = .ok (ig, len) →
    2 * g.monitorRoom + (g.stack.map fun v => v.category).sum ≤ W9 → A.U.methodNamed? y = some mk → Pre A a →
    (∃ (v : Option Value) (B : Pt), Stand p l e R s m sargs below meth c B.U B.locs B.cells B.slots ∧ Post A a v B ∧
      Steps p.tables e below (doInvoke e (A.U.setTop g) [] mk a).1 (B.U.setTop { g with pc := g.pc + len, stack := v.toList ++ g.stack })) ∨
    (∃ (q : Addr) (B : Pt), Stand p l e R s m sargs below meth c B.U B.locs B.cells B.slots ∧ PostX A a q B ∧
      Steps p.tables e below (doInvoke e (A.U.setTop g) [] mk a).1 ((B.U.setTop g).pushFrame (.throwing q)))
section Payer
variable {l : Launch} {R : Room} {p : Program} {e : Env} {below : List Frame} {s : State} {sargs : Array Value} {y : MethodName} {len W9 : Nat}
theorem vx_back {ws : List Cond} {rm : Room} {Pc : Array Value → State → Prop} {Qc : Array Value → State → Outcome → State → Prop} {XC : String → State → State → Prop} {mc ms : Nat} {free : Addr → Prop} {bytes : ByteArray} {maxL : Nat} {ret : Option FieldType}
    (hM : vx_Met l y ws rm Pc Qc XC mc ms free) (hblind : FrameBlind Pc) (hrc : rm.cells = mc) (hrs : rm.slots = ms)
    (hframes : rm.frames + 1 ≤ R.frames) (hlocals : W9 + (maxL + 11) + rm.locals ≤ R.locals)
    (hws : ∀ w ∈ ws, ∀ a' U, s.WarmedH U.vm → w.before a' U = true) (hcode : Cond.code y bytes maxL ret ∈ ws) (hinit : ∀ a' U, s.WarmedH U.vm → (Cond.initialized y.cls).before a' U = true) :
    vx_Back l R p e below s sargs y len W9 (PreOf R mc ms Pc) (PostOf Qc mc ms free) (vx_Post XC mc ms free) := by
  intro m meth c A g ig mk a X hg hsize hdg hW hn hp
  have h1 : (headSpec ws rm).pre.before a A.U = true := atoms_intro fun w hw => hws w hw _ _ X.warmed
  have h2 : (Cond.code y bytes maxL ret).before a A.U = true := hws _ hcode _ _ X.warmed
  have h3 : (Cond.initialized y.cls).before a A.U = true := hinit _ _ X.warmed
  have h4 : A.cells + (headSpec ws rm).room.cells ≤ R.cells := by rw [show (headSpec ws rm).room.cells = mc from hrc]; exact hp.1
  have h5 : A.slots + (headSpec ws rm).room.slots ≤ R.slots := by rw [show (headSpec ws rm).room.slots = ms from hrs]; exact hp.2.1
  have hPc : Pc a (A.U.calling g mk a) := hblind _ _ _ _ hp.2.2
  obtain ⟨U, Ls, c0, s0⟩ := A
  dsimp only [Pt.U, Pt.locs, Pt.cells, Pt.slots] at h1 h2 h3 h4 h5 X hn hPc ⊢
  obtain ⟨methY, cY, hmY, hcY, -, hlY, -, -, -, -⟩ := Cond.code_spec hn h2
  obtain ⟨kY, hkY, -⟩ := className_of_methodNamed hn
  have hinitY : kY.init = .initialized := Cond.initialized_spec (findClass_of_methodNamed hn) hkY h3
  have h : At U g.method c below := by rw [hg]; exact X.here
  have hlocals9 : W9 + (maxL + 11) + (headSpec ws rm).room.locals ≤ R.locals := hlocals
  have happ : (headSpec ws rm).appliesLoose y e.platform (U.calling g mk a) = true :=
    Spec.appliesLoose_calling (g := g) h hdg hn hkY hinitY
      (X.room_calling (g := g) (R' := (headSpec ws rm).room) hsize hmY hcY hframes (by rw [hlY]; omega) h4 h5) h1
  obtain ⟨mid, hmid⟩ := h.above
  have hfr : (U.setTop g).frames = (.java g :: mid) ++ below := by rw [State.frames_setTop' g h.top, hmid]; rfl
  obtain ⟨o, s₂, hsteps, -, hend, hq⟩ := Steps.callFree hM p X.admits X.cas X.clock (acts := []) hfr happ hPc trivial
  have hq' : vx_Q Qc XC mc ms free a (U.calling g mk a) o s₂ := hq
  rw [State.frames_setTop' g h.top] at hend
  obtain ⟨g₀, hg0⟩ := Option.isSome_iff_exists.mp h.top
  obtain ⟨r, hr⟩ := State.topJava?_eq_some.mp hg0
  have hr' : (({ U with heap := s₂.heap, slotsUsed := s₂.slotsUsed } : State).setVm s₂.vm).frames = .java g₀ :: r := hr
  rcases hq' with ⟨hqc, L, hfe, hL⟩ | ⟨q, rfl, E, ce, L, hx, hce, hcv, hcl, hW₂, hsm, hL⟩
  · obtain ⟨⟨v, rfl⟩, hW₂, e2, q2, q3, q4, q5, q6⟩ := id hfe
    have e3 : s₂ = ({ (U.calling g mk a).setFrames s₂.frames with heap := s₂.heap, slotsUsed := s₂.slotsUsed } : State).setVm s₂.vm := by
      have : s₂ = ({ s₂ with vm := (U.calling g mk a).vm } : State).setVm s₂.vm := rfl
      rw [e2] at this
      exact this
    obtain ⟨c₂, i₂, len₂, hc₂, hd₂, hf₂⟩ := hend
    have hW' : U.WarmedH s₂.vm := hW₂
    have hcc : c₂ = c := by
      have h1 : s₂.code? g.method = U.code? g.method := by
        rw [State.code?_eq, State.code?_eq, hW'.alike.method?]
      exact Option.some.inj (hc₂.symm.trans (h1.trans h.code))
    subst hcc
    have hlen : len₂ = len := by rw [hdg] at hd₂; cases hd₂; rfl
    subst hlen
    have hs₂ : s₂ = (({ U with heap := s₂.heap, slotsUsed := s₂.slotsUsed } : State).setVm s₂.vm).setTop { g with pc := g.pc + len₂, stack := v.toList ++ g.stack } := by
      refine e3.trans ?_
      rw [hf₂, State.calling_eq h.top, State.setFrames_setFrames, State.setTop_of_frames _ hr', hr]
      rfl
    have hsame : U.sameButNew ({ U with heap := s₂.heap, slotsUsed := s₂.slotsUsed } : State) L mc ms := by
      refine ⟨?_, q2, q3, q4, q5, q6⟩
      obtain ⟨t, ht, -⟩ := State.frames_cons hr
      show ({ U with heap := s₂.heap, slotsUsed := s₂.slotsUsed } : State) = { U.setFrames U.frames with heap := s₂.heap, slotsUsed := s₂.slotsUsed }
      rw [State.setFrames_self ht]
    subst hg
    refine Or.inl ⟨v, ⟨(({ U with heap := s₂.heap, slotsUsed := s₂.slotsUsed } : State).setVm s₂.vm), Ls ++ L, c0 + mc, s0 + ms⟩,
      ⟨X.admits, X.cas, X.clock, X.frames, X.room, X.hears, X.method, X.code, (X.here.setHeapUsed s₂.heap s₂.slotsUsed).setVm hW'.alike, X.tail, State.WarmedH.trans X.warmed hW', X.limits, X.bytes, X.same.trans (hsame.setVm s.vm)⟩,
      ⟨g, mk, s₂, L, rfl, rfl, hqc, rfl, hL, rfl, rfl⟩, ?_⟩
    show Steps p.tables e below _ ((({ U with heap := s₂.heap, slotsUsed := s₂.slotsUsed } : State).setVm s₂.vm).setTop { g with pc := g.pc + len₂, stack := v.toList ++ g.stack })
    rw [← hs₂]
    exact hsteps
  · obtain ⟨e2, q2, q3, q4, q5, q6⟩ := id hsm
    have e3 : s₂ = ({ (U.calling g mk a).setFrames s₂.frames with heap := s₂.heap, slotsUsed := s₂.slotsUsed } : State).setVm s₂.vm := by
      have : s₂ = ({ s₂ with vm := (U.calling g mk a).vm } : State).setVm s₂.vm := rfl
      rw [e2] at this
      exact this
    have hf₂ : s₂.frames = .throwing q :: .java g :: U.frames.tail := hend
    have hW' : U.WarmedH s₂.vm := hW₂
    have hs₂ : s₂ = ((({ U with heap := s₂.heap, slotsUsed := s₂.slotsUsed } : State).setVm s₂.vm).setTop g).pushFrame (.throwing q) := by
      refine e3.trans ?_
      rw [hf₂, State.calling_eq h.top, State.setFrames_setFrames, State.pushFrame, State.frames_setTop _ hr', State.setTop_of_frames _ hr', State.setFrames_setFrames, hr]
      rfl
    have hsame : U.sameButNew ({ U with heap := s₂.heap, slotsUsed := s₂.slotsUsed } : State) L mc ms := by
      refine ⟨?_, q2, q3, q4, q5, q6⟩
      obtain ⟨t, ht, -⟩ := State.frames_cons hr
      show ({ U with heap := s₂.heap, slotsUsed := s₂.slotsUsed } : State) = { U.setFrames U.frames with heap := s₂.heap, slotsUsed := s₂.slotsUsed }
      rw [State.setFrames_self ht]
    subst hg
    refine Or.inr ⟨q, ⟨(({ U with heap := s₂.heap, slotsUsed := s₂.slotsUsed } : State).setVm s₂.vm), Ls ++ L, c0 + mc, s0 + ms⟩,
      ⟨X.admits, X.cas, X.clock, X.frames, X.room, X.hears, X.method, X.code, (X.here.setHeapUsed s₂.heap s₂.slotsUsed).setVm hW'.alike, X.tail, State.WarmedH.trans X.warmed hW', X.limits, X.bytes, X.same.trans (hsame.setVm s.vm)⟩,
      ⟨g, mk, s₂, L, E, ce, rfl, rfl, hx, hce, hcv, hcl, rfl, hL, rfl, rfl⟩, ?_⟩
    show Steps p.tables e below _ (((({ U with heap := s₂.heap, slotsUsed := s₂.slotsUsed } : State).setVm s₂.vm).setTop g).pushFrame (.throwing q))
    rw [← hs₂]
    exact hsteps
end Payer
section Calls
variable {p : Program} {l : Launch} {e : Env} {R : Room} {s : State} {m : MethodId} {args : Array Value} {below : List Frame} {meth : Method} {c : Code} {T : State} {locs : List Loc} {cells slots : Nat}
theorem vx_callV (X : Stand p l e R s m args below meth c T locs cells slots) (hexec : p.tables.exec = Jvm.exec) {own C : String} {index : Nat} {y : MethodName} {bytes : ByteArray} {maxL : Nat} {ret : Option FieldType}
    (hown : s.vm.findClass own = some m.cls) (hlink : (Cond.methodLink own index y).before args s = true) (hinst : (Cond.instanceMethod y).before args s = true) (hsel : (Cond.selects C y y).before args s = true)
    (hcode : (Cond.code y bytes maxL ret).before args s = true) (hy : y.cls ≠ "java/lang/invoke/MethodHandle" ∧ y.cls ≠ "java/lang/invoke/VarHandle")
    {W9 : Nat} {Pre : Pt → Array Value → Prop} {Post : Pt → Array Value → Option Value → Pt → Prop} {PostX : Pt → Array Value → Addr → Pt → Prop} (hK : vx_Back l R p e below s args y 3 W9 Pre Post PostX)
    {b : Addr} {cellB : Cell} (hcell : T.heap[b]? = some cellB) (hobj : cellB.vm.isStatics = false) (hcls : s.vm.findClass C = some cellB.cls)
    {g : JFrame} (hg : g.method = m) (hsize : g.locals.size = c.maxLocals) {argsL rest : List Value} (hlen : ∀ sig, parseMethodDescriptor y.desc = some sig → argsL.length = sig.parameters.length)
    (hstack : g.stack = argsL.reverse ++ .ref b :: rest) (hW : 2 * g.monitorRoom + (rest.map fun v => v.category).sum ≤ W9) (hdg : decode c.code g.pc = .ok (.invokevirtual index, 3))
    (hpre : ∀ vm₁, s.WarmedH vm₁ → Pre ⟨T.setVm vm₁, locs, cells, slots⟩ (Value.ref b :: argsL).toArray) :
    (∃ (v : Option Value) (vm₁ : Vm) (B : Pt), s.WarmedH vm₁ ∧ Stand p l e R s m args below meth c B.U B.locs B.cells B.slots ∧ Post ⟨T.setVm vm₁, locs, cells, slots⟩ (Value.ref b :: argsL).toArray v B ∧
      ∀ target, Steps p.tables e below (B.U.setTop { g with pc := g.pc + 3, stack := v.toList ++ rest }) target → Steps p.tables e below (T.setTop g) target) ∨
    (∃ (q : Addr) (vm₁ : Vm) (B : Pt), s.WarmedH vm₁ ∧ Stand p l e R s m args below meth c B.U B.locs B.cells B.slots ∧ PostX ⟨T.setVm vm₁, locs, cells, slots⟩ (Value.ref b :: argsL).toArray q B ∧
      Steps p.tables e below (T.setTop g) ((B.U.setTop { g with stack := rest }).pushFrame (.throwing q))) := by
  obtain ⟨mk, methM, hnamed, hmethM, hstM, habM⟩ := Cond.instanceMethod_spec hinst
  obtain ⟨methM', cM, hmethM', -, -, -, -, -, -, hsigM⟩ := Cond.code_spec hnamed hcode
  cases hmethM.symm.trans hmethM'
  obtain ⟨c2, r2, m2, q1, q2, q3, q4, kP, hkP, hkPi⟩ := Cond.selects_spec hsel
  cases hcls.symm.trans q1
  cases (State.methodFound?_of_named hnamed hy).symm.trans q2
  cases hnamed.symm.trans q3
  have hselP : selectMethod e.platform s.vm cellB.cls mk = .method mk := by rw [Launch.admits_selectMethod X.admits]; exact q4
  obtain ⟨vm₁, X₁, hstep₁⟩ := X.invokevirtual hexec hown hlink hnamed hmethM hstM hkP hkPi hy (a := b) (cell := cellB) hcell
    (fun z h => by rw [h] at hobj; cases hobj) hselP hmethM habM hkP hkPi (g := g) hg (argsL := argsL) (rest := rest) (hlen _ hsigM) hstack hdg
  rcases hK m meth c ⟨T.setVm vm₁, locs, cells, slots⟩ { g with stack := rest } (.invokevirtual index) mk (Value.ref b :: argsL).toArray X₁ hg hsize hdg hW (X₁.named hnamed) (hpre vm₁ X₁.warmed) with ⟨v, B, X', hpost, hsteps⟩ | ⟨q, B, X', hpost, hsteps⟩
  · exact Or.inl ⟨v, vm₁, B, X₁.warmed, X', hpost, fun target h => hstep₁ _ fun acts => by rw [doInvoke_state]; exact hsteps.trans h⟩
  · exact Or.inr ⟨q, vm₁, B, X₁.warmed, X', hpost, hstep₁ _ fun acts => by rw [doInvoke_state]; exact hsteps⟩
theorem vx_callS (X : Stand p l e R s m args below meth c T locs cells slots) (hexec : p.tables.exec = Jvm.exec) {own : String} {index : Nat} {y : MethodName} {bytes : ByteArray} {maxL : Nat} {ret : Option FieldType}
    (hown : s.vm.findClass own = some m.cls) (hlink : (Cond.methodLink own index y).before args s = true) (hstat : (Cond.static y).before args s = true) (hinit : (Cond.initialized y.cls).before args s = true)
    (hcode : (Cond.code y bytes maxL ret).before args s = true) (hy : y.cls ≠ "java/lang/invoke/MethodHandle" ∧ y.cls ≠ "java/lang/invoke/VarHandle")
    {W9 : Nat} {Pre : Pt → Array Value → Prop} {Post : Pt → Array Value → Option Value → Pt → Prop} {PostX : Pt → Array Value → Addr → Pt → Prop} (hK : vx_Back l R p e below s args y 3 W9 Pre Post PostX)
    {g : JFrame} (hg : g.method = m) (hsize : g.locals.size = c.maxLocals) {argsL rest : List Value} (hlen : ∀ sig, parseMethodDescriptor y.desc = some sig → argsL.length = sig.parameters.length)
    (hstack : g.stack = argsL.reverse ++ rest) (hW : 2 * g.monitorRoom + (rest.map fun v => v.category).sum ≤ W9) (hdg : decode c.code g.pc = .ok (.invokestatic index, 3))
    (hpre : ∀ vm₁, s.WarmedH vm₁ → Pre ⟨T.setVm vm₁, locs, cells, slots⟩ argsL.toArray) :
    (∃ (v : Option Value) (vm₁ : Vm) (B : Pt), s.WarmedH vm₁ ∧ Stand p l e R s m args below meth c B.U B.locs B.cells B.slots ∧ Post ⟨T.setVm vm₁, locs, cells, slots⟩ argsL.toArray v B ∧
      ∀ target, Steps p.tables e below (B.U.setTop { g with pc := g.pc + 3, stack := v.toList ++ rest }) target → Steps p.tables e below (T.setTop g) target) ∨
    (∃ (q : Addr) (vm₁ : Vm) (B : Pt), s.WarmedH vm₁ ∧ Stand p l e R s m args below meth c B.U B.locs B.cells B.slots ∧ PostX ⟨T.setVm vm₁, locs, cells, slots⟩ argsL.toArray q B ∧
      Steps p.tables e below (T.setTop g) ((B.U.setTop { g with stack := rest }).pushFrame (.throwing q))) := by
  obtain ⟨mk, hnamed⟩ := Cond.code_named hcode
  obtain ⟨methM, cM, hmethM, -, -, -, -, -, -, hsigM⟩ := Cond.code_spec hnamed hcode
  have hstatic : methM.isStatic = true := Cond.static_spec hnamed hmethM hstat
  obtain ⟨kP, hkP, -⟩ := className_of_methodNamed hnamed
  have hinitP : kP.init = .initialized := Cond.initialized_spec (findClass_of_methodNamed hnamed) hkP hinit
  obtain ⟨vm₁, X₁, hstep₁⟩ := X.invokestatic hexec hown hlink hnamed hmethM hstatic hkP hinitP hy (g := g) hg (argsL := argsL) (rest := rest) (hlen _ hsigM) hstack hdg
  rcases hK m meth c ⟨T.setVm vm₁, locs, cells, slots⟩ { g with stack := rest } (.invokestatic index) mk argsL.toArray X₁ hg hsize hdg hW (X₁.named hnamed) (hpre vm₁ X₁.warmed) with ⟨v, B, X', hpost, hsteps⟩ | ⟨q, B, X', hpost, hsteps⟩
  · exact Or.inl ⟨v, vm₁, B, X₁.warmed, X', hpost, fun target h => hstep₁ _ fun acts => by rw [doInvoke_state]; exact hsteps.trans h⟩
  · exact Or.inr ⟨q, vm₁, B, X₁.warmed, X', hpost, hstep₁ _ fun acts => by rw [doInvoke_state]; exact hsteps⟩
end Calls
theorem vx_cls {s : State} {T : State} {vm₁ : Vm} {E : String} {k : ClassId} (hW : s.WarmedH vm₁) (h : (T.setVm vm₁).vm.findClass E = some k) : s.vm.findClass E = some k := by
  have h1 : vm₁.findClass E = some k := h
  rw [hW.alike.findClass] at h1
  exact h1
/-- the method's frame g, with q thrown over it -/
def vx_W (p : Program) (l : Launch) (e : Env) (R : Room) (s : State) (m : MethodId) (args : Array Value) (below : List Frame) (meth : Method) (c : Code) (H : Heap) (locs : List Loc) (cells slots : Nat) (Q : State → Prop) (g : JFrame) (q : Addr) : Prop :=
  ∀ T : State, T.heap = H → Stand p l e R s m args below meth c T locs cells slots → ∃ t, Steps p.tables e below ((T.setTop g).pushFrame (.throwing q)) t ∧ Q t
def vx_Run (p : Program) (l : Launch) (e : Env) (R : Room) (s : State) (m : MethodId) (args : Array Value) (below : List Frame) (meth : Method) (c : Code) (H : Heap) (locs : List Loc) (cells slots mc ms : Nat) (g : JFrame) (rest : List Value) (Qa : State → Outcome → State → Prop) (XC : String → State → State → Prop) (free : Addr → Prop) : Prop :=
  ∀ T : State, T.heap = H → Stand p l e R s m args below meth c T locs cells slots →
    (∃ (v : Option Value) (st₀ t T' : State) (L : List Loc), st₀.heap = H ∧ Stand p l e R s m args below meth c T' (locs ++ L) (cells + mc) (slots + ms) ∧ (∀ q ∈ L, free q.base) ∧ T'.heap = t.heap ∧ T'.vm = t.vm ∧ Qa st₀ (.returned v) t ∧
      Goes p e below T g T' { g with pc := g.pc + 3, stack := v.toList ++ rest }) ∨
    (∃ (q : Addr) (st₀ t T' : State) (L : List Loc) (E : String) (ce : Cell), st₀.heap = H ∧ Stand p l e R s m args below meth c T' (locs ++ L) (cells + mc) (slots + ms) ∧ (∀ z ∈ L, free z.base) ∧ T'.heap = t.heap ∧ T'.vm = t.vm ∧ XC E st₀ t ∧ t.heap[q]? = some ce ∧ ce.vm = .none ∧ s.vm.findClass E = some ce.cls ∧
      Steps p.tables e below (T.setTop g) ((T'.setTop { g with stack := rest }).pushFrame (.throwing q)))
def vx_X {S : Type} (px : S → Prop) (B : String → S → State → Prop) (A : Nat → Prop) : String → State → State → Prop := fun E st t => ∃ u : S, px u ∧ B E u t ∧ va_F A st t
section Runs
variable {p : Program} {l : Launch} {e : Env} {R : Room} {s : State} {m : MethodId} {args : Array Value} {below : List Frame} {meth : Method} {c : Code} {H : Heap} {locs : List Loc} {cells slots : Nat}
variable {y : MethodName} {bytes cc : ByteArray} {maxL nL mc ms n index : Nat} {ret : Option FieldType} {ws : List Cond} {rm : Room} {Pc : Array Value → State → Prop} {Qc : Array Value → State → Outcome → State → Prop} {XC : String → State → State → Prop} {free : Addr → Prop} {Ts : List Cond} {own C : String} {b : Addr} {As rest : List Value} {g : JFrame}
theorem vx_callBack (cb : CallB R s args own index y bytes maxL ret ws rm mc ms n) (hM : vx_Met l y ws rm Pc Qc XC mc ms free) (hbl : FrameBlind Pc) : vx_Back l R p e below s args y 3 8 (PreOf R mc ms Pc) (PostOf Qc mc ms free) (vx_Post XC mc ms free) := by
  obtain ⟨hrc, hrs, hfr, hlo, hws, hcw, -, hini, -⟩ := cb
  exact vx_back (bytes := bytes) (maxL := maxL) (ret := ret) hM hbl hrc hrs hfr hlo hws hcw (fun a' U hW => word_at hW (Or.inl (by first | rfl | simp [Cond.onTables, Cond.keeps, Cond.steady])) hini)
theorem vx_runV (S : CallFix p m c cc nL s args Ts own) (hM : vx_Met l y ws rm Pc Qc XC mc ms free) (cw : CallW R s args own C index y bytes maxL ret ws rm mc ms n) (hp : PreV s H C b Pc As)
    (hg : g.method = m) (hn : As.length = n) (hsize : g.locals.size = nL) (hstack : g.stack = As.reverse ++ .ref b :: rest) (hW : 2 * g.monitorRoom + (rest.map fun v => v.category).sum ≤ 8) (hdg : decode cc g.pc = .ok (.invokevirtual index, 3)) (hf : cells + mc ≤ R.cells ∧ slots + ms ≤ R.slots) :
    vx_Run p l e R s m args below meth c H locs cells slots mc ms g rest (Qc (Value.ref b :: As).toArray) XC free := by
  have hK : vx_Back l R p e below s args y 3 8 (PreOf R mc ms Pc) (PostOf Qc mc ms free) (vx_Post XC mc ms free) := vx_callBack cw.1 hM hp.1
  obtain ⟨⟨-, -, -, -, -, -, hcode, -, hy, hlen, hl⟩, hin, hse⟩ := cw
  obtain ⟨hx, hb, hml, ho, -⟩ := S
  obtain ⟨-, ⟨cellB, hcB, hoB, hclB⟩, hPc⟩ := hp
  intro T hT X
  rcases vx_callV X hx (C := C) (bytes := bytes) (maxL := maxL) (ret := ret) ho hl hin hse hcode hy hK (by rw [hT]; exact hcB) hoB hclB hg (hsize.trans hml.symm) (argsL := As) (rest := rest) (fun sig h => hn.trans (hlen sig h)) hstack hW (by rw [hb]; exact hdg)
    (fun vm₁ hW₁ => ⟨hf.1, hf.2, hPc (T.setVm vm₁) hT hW₁⟩) with ⟨v, vm₁, ⟨U', l2, c2, s2⟩, hW₁, X', ⟨g', mk, t, L, e1, e2, hq, h1, hL, h2, h3⟩, st⟩ | ⟨q, vm₁, ⟨U', l2, c2, s2⟩, hW₁, X', ⟨g', mk, t, L, E, ce, e1, e2, hq, hce, hcv, hcl, h1, hL, h2, h3⟩, st⟩
  · dsimp only [Pt.U, Pt.locs, Pt.cells, Pt.slots] at X' e1 e2 h1 h2 h3 st
    subst h1; subst h2; subst h3
    exact Or.inl ⟨v, (T.setVm vm₁).calling g' mk (Value.ref b :: As).toArray, t, U', L, hT, X', hL, e1, e2, hq, st⟩
  · dsimp only [Pt.U, Pt.locs, Pt.cells, Pt.slots] at X' e1 e2 h1 h2 h3 st hcl
    subst h1; subst h2; subst h3
    exact Or.inr ⟨q, (T.setVm vm₁).calling g' mk (Value.ref b :: As).toArray, t, U', L, E, ce, hT, X', hL, e1, e2, hq, hce, hcv, vx_cls hW₁ hcl, st⟩
theorem vx_runS (S : CallFix p m c cc nL s args Ts own) (hM : vx_Met l y ws rm Pc Qc XC mc ms free) (cw : CallB R s args own index y bytes maxL ret ws rm mc ms n ∧ (Cond.static y).before args s = true) (hp : PreS s H Pc As)
    (hg : g.method = m) (hn : As.length = n) (hsize : g.locals.size = nL) (hstack : g.stack = As.reverse ++ rest) (hW : 2 * g.monitorRoom + (rest.map fun v => v.category).sum ≤ 8) (hdg : decode cc g.pc = .ok (.invokestatic index, 3)) (hf : cells + mc ≤ R.cells ∧ slots + ms ≤ R.slots) :
    vx_Run p l e R s m args below meth c H locs cells slots mc ms g rest (Qc As.toArray) XC free := by
  have hK : vx_Back l R p e below s args y 3 8 (PreOf R mc ms Pc) (PostOf Qc mc ms free) (vx_Post XC mc ms free) := vx_callBack cw.1 hM hp.1
  obtain ⟨⟨-, -, -, -, -, -, hcode, hini, hy, hlen, hl⟩, hstt⟩ := cw
  obtain ⟨hx, hb, hml, ho, -⟩ := S
  intro T hT X
  rcases vx_callS X hx (bytes := bytes) (maxL := maxL) (ret := ret) ho hl hstt hini hcode hy hK hg (hsize.trans hml.symm) (argsL := As) (rest := rest) (fun sig h => hn.trans (hlen sig h)) hstack hW (by rw [hb]; exact hdg)
    (fun vm₁ hW₁ => ⟨hf.1, hf.2, hp.2 (T.setVm vm₁) hT hW₁⟩) with ⟨v, vm₁, ⟨U', l2, c2, s2⟩, hW₁, X', ⟨g', mk, t, L, e1, e2, hq, h1, hL, h2, h3⟩, st⟩ | ⟨q, vm₁, ⟨U', l2, c2, s2⟩, hW₁, X', ⟨g', mk, t, L, E, ce, e1, e2, hq, hce, hcv, hcl, h1, hL, h2, h3⟩, st⟩
  · dsimp only [Pt.U, Pt.locs, Pt.cells, Pt.slots] at X' e1 e2 h1 h2 h3 st
    subst h1; subst h2; subst h3
    exact Or.inl ⟨v, (T.setVm vm₁).calling g' mk As.toArray, t, U', L, hT, X', hL, e1, e2, hq, st⟩
  · dsimp only [Pt.U, Pt.locs, Pt.cells, Pt.slots] at X' e1 e2 h1 h2 h3 st hcl
    subst h1; subst h2; subst h3
    exact Or.inr ⟨q, (T.setVm vm₁).calling g' mk As.toArray, t, U', L, E, ce, hT, X', hL, e1, e2, hq, hce, hcv, vx_cls hW₁ hcl, st⟩
end Runs
section Rows
variable {p : Program} {l : Launch} {e : Env} {R : Room} {s : State} {m : MethodId} {args : Array Value} {below : List Frame} {meth : Method} {c : Code} {H : Heap} {locs : List Loc} {cells slots : Nat} {Q : State → Prop}
variable {mc ms : Nat} {free : Addr → Prop} {A0 A1 : Nat → Prop} {H0 : Heap} {a : Array Value} {pc : Nat} {ls : Array Slot} {st0 rest : List Value}
theorem vx_keep {st₀ t T' : State} {L : List Loc} (h0 : st₀.heap = H) (e1 : T'.heap = t.heap) (hS : va_S A0 H0 H locs) (hA : ∀ q, q < H.size → A1 q → A0 q) (hf : ∀ q, free q → A0 q) (hL : ∀ q ∈ L, free q.base) (hF : va_F A1 st₀ t) :
    H.size ≤ T'.heap.size ∧ (∀ q : Nat, q < H.size → ¬ A1 q → T'.heap[q]? = H[q]?) ∧ va_S A0 H0 T'.heap (locs ++ L) := by
  obtain ⟨hz, hk⟩ := hF
  rw [h0] at hz hk
  exact ⟨by rw [e1]; exact hz, fun q h1 h2 => by rw [e1]; exact hk q h1 h2,
    ⟨Nat.le_trans hS.1 (by rw [e1]; exact hz), fun q h1 h2 => by rw [e1, hk q (Nat.lt_of_lt_of_le h1 hS.1) (fun z => h2 (hA q (Nat.lt_of_lt_of_le h1 hS.1) z))]; exact hS.2.1 q h1 h2, fun q hq => by
      rcases List.mem_append.mp hq with h | h
      · exact hS.2.2 q h
      · exact hf _ (hL q h)⟩⟩
theorem vx_calli {S SX : Type} {post : Int32 → S → Prop} {px : SX → Prop} {B : S → State → Prop} {BX : String → SX → State → Prop} {AX : Nat → Prop} (hr : vx_Run p l e R s m args below meth c H locs cells slots mc ms (F0 m pc ls st0) rest (va_Qi post B A1 a) (vx_X px BX AX) free) (hS : va_S A0 H0 H locs) (hA : ∀ q, q < H.size → A1 q → A0 q) (hf : ∀ q, free q → A0 q) (hAX : ∀ q, q < H.size → AX q → A0 q)
    (kx : ∀ (E : String) (ce : Cell) (q9 : Addr) (u : SX) (t : State) (H1 : Heap) (locs1 : List Loc), t.heap = H1 → s.vm.Alike t.vm → px u → BX E u t → H.size ≤ H1.size → (∀ q : Nat, q < H.size → ¬ AX q → H1[q]? = H[q]?) → va_S A0 H0 H1 locs1 → H1[q9]? = some ce → ce.vm = .none → s.vm.findClass E = some ce.cls → vx_W p l e R s m args below meth c H1 locs1 (cells + mc) (slots + ms) Q (F0 m pc ls rest) q9)
    (kk : ∀ (r : Int32) (u : S) (t : State) (H1 : Heap) (locs1 : List Loc), t.heap = H1 → s.vm.Alike t.vm → post r u → B u t → H.size ≤ H1.size → (∀ q : Nat, q < H.size → ¬ A1 q → H1[q]? = H[q]?) → va_S A0 H0 H1 locs1 → W p l e R s m args below meth c H1 locs1 (cells + mc) (slots + ms) Q (F0 m (pc + 3) ls (.int r :: rest))) : W p l e R s m args below meth c H locs cells slots Q (F0 m pc ls st0) := by
  intro T hT X
  rcases hr T hT X with ⟨v, st₀, t, T', L, h0, X', hL, e1, e2, ⟨⟨r, u, hv, hp, hb⟩, hF⟩, st⟩ | ⟨q, st₀, t, T', L, E, ce, h0, X', hL, e1, e2, ⟨u, hp, hb, hF⟩, hce, hcv, hcl, st⟩
  · cases hv
    obtain ⟨k1, k2, k3⟩ := vx_keep h0 e1 hS hA hf hL hF
    obtain ⟨t2, a1, b1⟩ := kk r u t T'.heap (locs ++ L) e1.symm (by rw [← e2]; exact X'.warmed.alike) hp hb k1 k2 k3 T' rfl X'
    exact ⟨t2, st t2 a1, b1⟩
  · obtain ⟨k1, k2, k3⟩ := vx_keep h0 e1 hS hAX hf hL hF
    obtain ⟨t2, a1, b1⟩ := kx E ce q u t T'.heap (locs ++ L) e1.symm (by rw [← e2]; exact X'.warmed.alike) hp hb k1 k2 k3 (by rw [e1]; exact hce) hcv hcl T' rfl X'
    exact ⟨t2, st.trans a1, b1⟩
theorem vx_calll {S SX : Type} {post : Int64 → S → Prop} {px : SX → Prop} {B : S → State → Prop} {BX : String → SX → State → Prop} {AX : Nat → Prop} (hr : vx_Run p l e R s m args below meth c H locs cells slots mc ms (F0 m pc ls st0) rest (va_Ql post B A1 a) (vx_X px BX AX) free) (hS : va_S A0 H0 H locs) (hA : ∀ q, q < H.size → A1 q → A0 q) (hf : ∀ q, free q → A0 q) (hAX : ∀ q, q < H.size → AX q → A0 q)
    (kx : ∀ (E : String) (ce : Cell) (q9 : Addr) (u : SX) (t : State) (H1 : Heap) (locs1 : List Loc), t.heap = H1 → s.vm.Alike t.vm → px u → BX E u t → H.size ≤ H1.size → (∀ q : Nat, q < H.size → ¬ AX q → H1[q]? = H[q]?) → va_S A0 H0 H1 locs1 → H1[q9]? = some ce → ce.vm = .none → s.vm.findClass E = some ce.cls → vx_W p l e R s m args below meth c H1 locs1 (cells + mc) (slots + ms) Q (F0 m pc ls rest) q9)
    (kk : ∀ (r : Int64) (u : S) (t : State) (H1 : Heap) (locs1 : List Loc), t.heap = H1 → s.vm.Alike t.vm → post r u → B u t → H.size ≤ H1.size → (∀ q : Nat, q < H.size → ¬ A1 q → H1[q]? = H[q]?) → va_S A0 H0 H1 locs1 → W p l e R s m args below meth c H1 locs1 (cells + mc) (slots + ms) Q (F0 m (pc + 3) ls (.long r :: rest))) : W p l e R s m args below meth c H locs cells slots Q (F0 m pc ls st0) := by
  intro T hT X
  rcases hr T hT X with ⟨v, st₀, t, T', L, h0, X', hL, e1, e2, ⟨⟨r, u, hv, hp, hb⟩, hF⟩, st⟩ | ⟨q, st₀, t, T', L, E, ce, h0, X', hL, e1, e2, ⟨u, hp, hb, hF⟩, hce, hcv, hcl, st⟩
  · cases hv
    obtain ⟨k1, k2, k3⟩ := vx_keep h0 e1 hS hA hf hL hF
    obtain ⟨t2, a1, b1⟩ := kk r u t T'.heap (locs ++ L) e1.symm (by rw [← e2]; exact X'.warmed.alike) hp hb k1 k2 k3 T' rfl X'
    exact ⟨t2, st t2 a1, b1⟩
  · obtain ⟨k1, k2, k3⟩ := vx_keep h0 e1 hS hAX hf hL hF
    obtain ⟨t2, a1, b1⟩ := kx E ce q u t T'.heap (locs ++ L) e1.symm (by rw [← e2]; exact X'.warmed.alike) hp hb k1 k2 k3 (by rw [e1]; exact hce) hcv hcl T' rfl X'
    exact ⟨t2, st.trans a1, b1⟩
theorem vx_callf {S SX : Type} {post : UInt32 → S → Prop} {px : SX → Prop} {B : S → State → Prop} {BX : String → SX → State → Prop} {AX : Nat → Prop} (hr : vx_Run p l e R s m args below meth c H locs cells slots mc ms (F0 m pc ls st0) rest (va_Qf post B A1 a) (vx_X px BX AX) free) (hS : va_S A0 H0 H locs) (hA : ∀ q, q < H.size → A1 q → A0 q) (hf : ∀ q, free q → A0 q) (hAX : ∀ q, q < H.size → AX q → A0 q)
    (kx : ∀ (E : String) (ce : Cell) (q9 : Addr) (u : SX) (t : State) (H1 : Heap) (locs1 : List Loc), t.heap = H1 → s.vm.Alike t.vm → px u → BX E u t → H.size ≤ H1.size → (∀ q : Nat, q < H.size → ¬ AX q → H1[q]? = H[q]?) → va_S A0 H0 H1 locs1 → H1[q9]? = some ce → ce.vm = .none → s.vm.findClass E = some ce.cls → vx_W p l e R s m args below meth c H1 locs1 (cells + mc) (slots + ms) Q (F0 m pc ls rest) q9)
    (kk : ∀ (r : UInt32) (u : S) (t : State) (H1 : Heap) (locs1 : List Loc), t.heap = H1 → s.vm.Alike t.vm → post r u → B u t → H.size ≤ H1.size → (∀ q : Nat, q < H.size → ¬ A1 q → H1[q]? = H[q]?) → va_S A0 H0 H1 locs1 → W p l e R s m args below meth c H1 locs1 (cells + mc) (slots + ms) Q (F0 m (pc + 3) ls (.float r :: rest))) : W p l e R s m args below meth c H locs cells slots Q (F0 m pc ls st0) := by
  intro T hT X
  rcases hr T hT X with ⟨v, st₀, t, T', L, h0, X', hL, e1, e2, ⟨⟨r, u, hv, hp, hb⟩, hF⟩, st⟩ | ⟨q, st₀, t, T', L, E, ce, h0, X', hL, e1, e2, ⟨u, hp, hb, hF⟩, hce, hcv, hcl, st⟩
  · cases hv
    obtain ⟨k1, k2, k3⟩ := vx_keep h0 e1 hS hA hf hL hF
    obtain ⟨t2, a1, b1⟩ := kk r u t T'.heap (locs ++ L) e1.symm (by rw [← e2]; exact X'.warmed.alike) hp hb k1 k2 k3 T' rfl X'
    exact ⟨t2, st t2 a1, b1⟩
  · obtain ⟨k1, k2, k3⟩ := vx_keep h0 e1 hS hAX hf hL hF
    obtain ⟨t2, a1, b1⟩ := kx E ce q u t T'.heap (locs ++ L) e1.symm (by rw [← e2]; exact X'.warmed.alike) hp hb k1 k2 k3 (by rw [e1]; exact hce) hcv hcl T' rfl X'
    exact ⟨t2, st.trans a1, b1⟩
theorem vx_calld {S SX : Type} {post : UInt64 → S → Prop} {px : SX → Prop} {B : S → State → Prop} {BX : String → SX → State → Prop} {AX : Nat → Prop} (hr : vx_Run p l e R s m args below meth c H locs cells slots mc ms (F0 m pc ls st0) rest (va_Qd post B A1 a) (vx_X px BX AX) free) (hS : va_S A0 H0 H locs) (hA : ∀ q, q < H.size → A1 q → A0 q) (hf : ∀ q, free q → A0 q) (hAX : ∀ q, q < H.size → AX q → A0 q)
    (kx : ∀ (E : String) (ce : Cell) (q9 : Addr) (u : SX) (t : State) (H1 : Heap) (locs1 : List Loc), t.heap = H1 → s.vm.Alike t.vm → px u → BX E u t → H.size ≤ H1.size → (∀ q : Nat, q < H.size → ¬ AX q → H1[q]? = H[q]?) → va_S A0 H0 H1 locs1 → H1[q9]? = some ce → ce.vm = .none → s.vm.findClass E = some ce.cls → vx_W p l e R s m args below meth c H1 locs1 (cells + mc) (slots + ms) Q (F0 m pc ls rest) q9)
    (kk : ∀ (r : UInt64) (u : S) (t : State) (H1 : Heap) (locs1 : List Loc), t.heap = H1 → s.vm.Alike t.vm → post r u → B u t → H.size ≤ H1.size → (∀ q : Nat, q < H.size → ¬ A1 q → H1[q]? = H[q]?) → va_S A0 H0 H1 locs1 → W p l e R s m args below meth c H1 locs1 (cells + mc) (slots + ms) Q (F0 m (pc + 3) ls (.double r :: rest))) : W p l e R s m args below meth c H locs cells slots Q (F0 m pc ls st0) := by
  intro T hT X
  rcases hr T hT X with ⟨v, st₀, t, T', L, h0, X', hL, e1, e2, ⟨⟨r, u, hv, hp, hb⟩, hF⟩, st⟩ | ⟨q, st₀, t, T', L, E, ce, h0, X', hL, e1, e2, ⟨u, hp, hb, hF⟩, hce, hcv, hcl, st⟩
  · cases hv
    obtain ⟨k1, k2, k3⟩ := vx_keep h0 e1 hS hA hf hL hF
    obtain ⟨t2, a1, b1⟩ := kk r u t T'.heap (locs ++ L) e1.symm (by rw [← e2]; exact X'.warmed.alike) hp hb k1 k2 k3 T' rfl X'
    exact ⟨t2, st t2 a1, b1⟩
  · obtain ⟨k1, k2, k3⟩ := vx_keep h0 e1 hS hAX hf hL hF
    obtain ⟨t2, a1, b1⟩ := kx E ce q u t T'.heap (locs ++ L) e1.symm (by rw [← e2]; exact X'.warmed.alike) hp hb k1 k2 k3 (by rw [e1]; exact hce) hcv hcl T' rfl X'
    exact ⟨t2, st.trans a1, b1⟩
theorem vx_callv {S SX : Type} {post : S → Prop} {px : SX → Prop} {B : S → State → Prop} {BX : String → SX → State → Prop} {AX : Nat → Prop} (hr : vx_Run p l e R s m args below meth c H locs cells slots mc ms (F0 m pc ls st0) rest (va_Qv post B A1 a) (vx_X px BX AX) free) (hS : va_S A0 H0 H locs) (hA : ∀ q, q < H.size → A1 q → A0 q) (hf : ∀ q, free q → A0 q) (hAX : ∀ q, q < H.size → AX q → A0 q)
    (kx : ∀ (E : String) (ce : Cell) (q9 : Addr) (u : SX) (t : State) (H1 : Heap) (locs1 : List Loc), t.heap = H1 → s.vm.Alike t.vm → px u → BX E u t → H.size ≤ H1.size → (∀ q : Nat, q < H.size → ¬ AX q → H1[q]? = H[q]?) → va_S A0 H0 H1 locs1 → H1[q9]? = some ce → ce.vm = .none → s.vm.findClass E = some ce.cls → vx_W p l e R s m args below meth c H1 locs1 (cells + mc) (slots + ms) Q (F0 m pc ls rest) q9)
    (kk : ∀ (u : S) (t : State) (H1 : Heap) (locs1 : List Loc), t.heap = H1 → s.vm.Alike t.vm → post u → B u t → H.size ≤ H1.size → (∀ q : Nat, q < H.size → ¬ A1 q → H1[q]? = H[q]?) → va_S A0 H0 H1 locs1 → W p l e R s m args below meth c H1 locs1 (cells + mc) (slots + ms) Q (F0 m (pc + 3) ls (rest))) : W p l e R s m args below meth c H locs cells slots Q (F0 m pc ls st0) := by
  intro T hT X
  rcases hr T hT X with ⟨v, st₀, t, T', L, h0, X', hL, e1, e2, ⟨⟨u, hv, hp, hb⟩, hF⟩, st⟩ | ⟨q, st₀, t, T', L, E, ce, h0, X', hL, e1, e2, ⟨u, hp, hb, hF⟩, hce, hcv, hcl, st⟩
  · cases hv
    obtain ⟨k1, k2, k3⟩ := vx_keep h0 e1 hS hA hf hL hF
    obtain ⟨t2, a1, b1⟩ := kk u t T'.heap (locs ++ L) e1.symm (by rw [← e2]; exact X'.warmed.alike) hp hb k1 k2 k3 T' rfl X'
    exact ⟨t2, st t2 a1, b1⟩
  · obtain ⟨k1, k2, k3⟩ := vx_keep h0 e1 hS hAX hf hL hF
    obtain ⟨t2, a1, b1⟩ := kx E ce q u t T'.heap (locs ++ L) e1.symm (by rw [← e2]; exact X'.warmed.alike) hp hb k1 k2 k3 (by rw [e1]; exact hce) hcv hcl T' rfl X'
    exact ⟨t2, st.trans a1, b1⟩
end Rows
section Ends
variable {p : Program} {l : Launch} {e : Env} {R : Room} {s : State} {m : MethodId} {args : Array Value} {below : List Frame} {meth : Method} {c : Code} {H : Heap} {locs : List Loc} {cells slots : Nat} {Q : State → Prop}
variable {mc ms : Nat} {free : Addr → Prop} {A0 A1 : Nat → Prop} {H0 : Heap} {a : Array Value} {ls : Array Slot} {st0 rest : List Value}
variable {Qc : Array Value → State → Outcome → State → Prop} {XC : String → State → State → Prop}
/-- what a body that may throw owes at its end -/
def vx_MQ (below : List Frame) (Qc : Array Value → State → Outcome → State → Prop) (XC : String → State → State → Prop) (a : Array Value) (s : State) (mc ms : Nat) (free : Addr → Prop) : State → Prop := fun t =>
  ∃ o, t.status = .running ∧ Ended t below o ∧ vx_Q Qc XC mc ms free a s o t
theorem vx_ret {g : JFrame} {mc ms : Nat} (k : W p l e R s m args below meth c H locs cells slots (MQ below Qc args s mc ms free) g) : W p l e R s m args below meth c H locs cells slots (vx_MQ below Qc XC args s mc ms free) g := by
  intro T hT X
  obtain ⟨t, a1, o, b1, b2, b3, b4⟩ := k T hT X
  exact ⟨t, a1, o, b1, b2, Or.inl ⟨b3, b4⟩⟩
/-- not caught here: it goes on to the caller -/
theorem vx_widen {g : JFrame} {q : Addr} {k n : Nat} (h1 : cells ≤ k) (h2 : slots ≤ n) (kk : vx_W p l e R s m args below meth c H locs k n Q g q) : vx_W p l e R s m args below meth c H locs cells slots Q g q := fun T hT X => kk T hT (stand_widen X h1 h2)
theorem vx_out {pc : Nat} {E : String} {ce : Cell} {q : Addr} {mc ms : Nat} (hout : ∀ x ∈ c.exceptionTable.toList, covers x pc = false) (hlocks : meth.locks = false) (hcell : H[q]? = some ce) (hv : ce.vm = .none) (hcl : s.vm.findClass E = some ce.cls)
    (hx : ∀ t : State, t.heap = H → s.vm.Alike t.vm → XC E s t) (hf : ∀ z ∈ locs, free z.base) (hc : cells ≤ mc) (hs : slots ≤ ms) :
    vx_W p l e R s m args below meth c H locs cells slots (vx_MQ below Qc XC args s mc ms free) (F0 m pc ls rest) q := by
  intro T hT X
  obtain ⟨st1, hrun, hend, hW, hsm⟩ := X.leaveThrown q (g := F0 m pc ls rest) rfl rfl rfl hout hlocks
  have hcell9 : (T.setFrames (.throwing q :: below)).heap[q]? = some ce := by
    show T.heap[q]? = some ce
    rw [hT]; exact hcell
  exact ⟨_, st1, .threw q, hrun, hend, Or.inr ⟨q, rfl, E, ce, locs, hx _ hT hW.alike, hcell9, hv, hcl, hW, hsm.mono hc hs, hf⟩⟩
theorem vx_frame {U : State} {k n : Nat} (h : s.sameButNew ({ U with vm := s.vm } : State) locs k n) : s.heap.size ≤ U.heap.size ∧ ∀ q : Nat, q < s.heap.size → (∀ z ∈ locs, z.base ≠ q) → U.heap[q]? = s.heap[q]? := by
  obtain ⟨-, h2, -, -, -, h6⟩ := h
  refine ⟨h2, fun q hq hz => ?_⟩
  obtain ⟨c9, e1, e2, e3, e4⟩ := h6 q _ (Array.getElem?_eq_getElem hq)
  have hs : c9.slots = (s.heap[q]).slots := Array.ext_getElem? fun i => e4 i fun hm => hz _ hm rfl
  have h9 : c9 = s.heap[q] := by
    rw [hs] at e2
    exact e2
  have e5 : U.heap[q]? = some c9 := e1
  rw [e5, h9, Array.getElem?_eq_getElem hq]
/-- the words of a throw but the four that speak of the heap -/
def vx_no (w : Cond) : Bool := decide (w ≠ .isRef (.static Bundle.tN "UNASSIGNED_STACK" Bundle.steD)) && decide (w ≠ .isRef (.static Bundle.tN "SUPPRESSED_SENTINEL" Bundle.listD)) && decide (w ≠ .laysStatic Bundle.tN "UNASSIGNED_STACK" Bundle.steD) && decide (w ≠ .laysStatic Bundle.tN "SUPPRESSED_SENTINEL" Bundle.listD)
def vx_at0 (own : String) (ic : Nat) (X : String) (names : List String) : List Cond := (Bundle.ownAtoms0 own ic X names).filter vx_no
def vx_atS (own : String) (ic : Nat) (X : String) (names : List String) : List Cond := (Bundle.ownAtoms own ic X names).filter vx_no
/-- a word that the tables alone decide, or a good one -/
def vx_ot (w : Cond) : Bool := w.onTables || goodWord w
theorem vx_ot_at {args a' : Array Value} {s U : State} {w : Cond} (hW : s.WarmedH U.vm) (hvm : s.vm = U.vm) (hg : vx_ot w = true) (h : w.before args s = true) : w.before a' U = true := by
  simp only [vx_ot, Bool.or_eq_true] at hg
  rcases hg with hg | hg
  · exact va_tabs hg hvm h
  · exact word_at hW (good_of_word hg) h
/-- a list's words: the good ones out of the method's own list, the others by premises of their own -/
theorem vx_hat {args : Array Value} {s : State} {L B : List Cond} (h1 : ∀ w ∈ L.filter goodWord, w.before args s = true) (h2 : ∀ w ∈ L.filter (fun w => !goodWord w), w ∈ B) (h3 : ∀ w ∈ B, w.before args s = true) : ∀ w ∈ L, w.before args s = true := by
  intro w hw
  by_cases g : goodWord w = true
  · exact h1 w (List.mem_filter.mpr ⟨hw, g⟩)
  · refine h3 w (h2 w (List.mem_filter.mpr ⟨hw, ?_⟩))
    show (!goodWord w) = true
    cases hgw : goodWord w
    · rfl
    · exact absurd hgw g
theorem vx_c {args : Array Value} {s : State} {w : Cond} {B : List Cond} (h : w.before args s = true) (t : ∀ w ∈ B, w.before args s = true) : ∀ w' ∈ w :: B, w'.before args s = true := fun w' h' => (List.mem_cons.mp h').elim (fun e => by rw [e]; exact h) (t w')
theorem vx_n {args : Array Value} {s : State} : ∀ w ∈ ([] : List Cond), w.before args s = true := fun _ h => nomatch h
theorem vx_own {args : Array Value} {s : State} {L : List Cond} (h1 : ∀ w ∈ L.filter vx_no, w.before args s = true)
    (hU : (Cond.isRef (.static Bundle.tN "UNASSIGNED_STACK" Bundle.steD)).before args s = true) (hN : (Cond.isRef (.static Bundle.tN "SUPPRESSED_SENTINEL" Bundle.listD)).before args s = true)
    (lU : (Cond.laysStatic Bundle.tN "UNASSIGNED_STACK" Bundle.steD).before args s = true) (lN : (Cond.laysStatic Bundle.tN "SUPPRESSED_SENTINEL" Bundle.listD).before args s = true) : ∀ w ∈ L, w.before args s = true := by
  intro w hw
  by_cases e1 : w = .isRef (.static Bundle.tN "UNASSIGNED_STACK" Bundle.steD)
  · rw [e1]; exact hU
  · by_cases e2 : w = .isRef (.static Bundle.tN "SUPPRESSED_SENTINEL" Bundle.listD)
    · rw [e2]; exact hN
    · by_cases e3 : w = .laysStatic Bundle.tN "UNASSIGNED_STACK" Bundle.steD
      · rw [e3]; exact lU
      · by_cases e4 : w = .laysStatic Bundle.tN "SUPPRESSED_SENTINEL" Bundle.listD
        · rw [e4]; exact lN
        · exact h1 w (List.mem_filter.mpr ⟨hw, by unfold vx_no; rw [decide_eq_true e1, decide_eq_true e2, decide_eq_true e3, decide_eq_true e4]; rfl⟩)
/-- where a static field lies, its class's statics cell in H -/
def vx_L (C n d : String) (A : Nat → Prop) (U : State) (H : Heap) : Prop := ∃ (c : ClassId) (k : Class) (i : Nat) (f : Field) (a : Nat) (cell : Cell), U.vm.findClass C = some c ∧ U.fieldFound? C n d = some (c, k, i, f) ∧ f.isStatic = true ∧ k.statics = some a ∧ H[a]? = some cell ∧ cell.vm.isStatics = true ∧ cell.cls = c ∧ f.slot < cell.slots.size ∧ k.staticTypes[f.slot]? = some f.type ∧ ¬ A a
theorem vx_L.moved {C n d : String} {A : Nat → Prop} {u U : State} {H : Heap} (hvm : u.vm.Alike U.vm) (h : vx_L C n d A u H) : vx_L C n d A U H := by
  obtain ⟨c, k, i, f, a, cell, h1, h2, h3, h4, h5, h6, h7, h8, h9, h10⟩ := h
  obtain ⟨k', hi', he⟩ := State.fieldFound?_setVm hvm h2
  exact ⟨c, k', i, f, a, cell, by rw [hvm.findClass]; exact h1, hi', h3, by rw [he]; exact h4, h5, h6, h7, h8, by rw [he]; exact h9, h10⟩
theorem vx_L.kept {C n d : String} {A : Nat → Prop} {U : State} {H H1 : Heap} (h : vx_L C n d A U H) (hq : ∀ a : Nat, a < H.size → ¬ A a → H1[a]? = H[a]?) : vx_L C n d A U H1 := by
  obtain ⟨c, k, i, f, a, cell, h1, h2, h3, h4, h5, h6, h7, h8, h9, h10⟩ := h
  exact ⟨c, k, i, f, a, cell, h1, h2, h3, h4, by rw [hq a (Array.getElem?_eq_some_iff.mp h5).1 h10]; exact h5, h6, h7, h8, h9, h10⟩
theorem vx_L.narrow {C n d : String} {A B : Nat → Prop} {U : State} {H : Heap} (h : vx_L C n d A U H) (hAB : ∀ q, B q → A q) : vx_L C n d B U H := by
  obtain ⟨c, k, i, f, a, cell, h1, h2, h3, h4, h5, h6, h7, h8, h9, h10⟩ := h
  exact ⟨c, k, i, f, a, cell, h1, h2, h3, h4, h5, h6, h7, h8, h9, fun z => h10 (hAB _ z)⟩
theorem vx_L.word {C n d : String} {A : Nat → Prop} {s : State} {args : Array Value} (h : vx_L C n d A s s.heap) : (Cond.laysStatic C n d).before args s = true := by
  obtain ⟨c, k, i, f, a, cell, h1, h2, h3, h4, h5, h6, h7, h8, h9, -⟩ := h
  show (Cond.laysStatic C n d).holds args s none s [] = true
  exact Cond.laysStatic_of h1 h2 h3 h4 h5 h6 h7 h8 h9
/-- .. and what it holds: null or some reference -/
def vx_Zq (C n d : String) (A : Nat → Prop) (U : State) (H : Heap) : Prop := va_Zq C n d A U H ∧ vx_L C n d A U H
theorem vx_Zq.moved {C n d : String} {A : Nat → Prop} {u U : State} {H : Heap} (hvm : u.vm.Alike U.vm) (h : vx_Zq C n d A u H) : vx_Zq C n d A U H := ⟨va_Zq.moved hvm h.1, vx_L.moved hvm h.2⟩
theorem vx_Zq.kept {C n d : String} {A : Nat → Prop} {U : State} {H H1 : Heap} (h : vx_Zq C n d A U H) (hq : ∀ a : Nat, a < H.size → ¬ A a → H1[a]? = H[a]?) : vx_Zq C n d A U H1 := ⟨va_Zq.kept h.1 hq, vx_L.kept h.2 hq⟩
theorem vx_Zq.narrow {C n d : String} {A B : Nat → Prop} {U : State} {H : Heap} (h : vx_Zq C n d A U H) (hAB : ∀ q, B q → A q) : vx_Zq C n d B U H := ⟨va_Zq.narrow h.1 hAB, vx_L.narrow h.2 hAB⟩
theorem vx_Zqof {args : Array Value} {s : State} {C n d : String} {A : Nat → Prop} (hl : (Cond.laysStatic C n d).before args s = true) (hini : (Cond.initialized C).before args s = true) (h : (Cond.isRef (.static C n d)).before args s = true) (hA : ∀ a : Nat, a < s.heap.size → ¬ A a) : vx_Zq C n d A s s.heap := by
  refine ⟨va_Zqof hl hini h hA, ?_⟩
  obtain ⟨c, k, i, f, a, cell, h1, h2, h3, h4, h5, h6, h7, h8, h9⟩ := Cond.laysStatic_spec hl
  exact ⟨c, k, i, f, a, cell, h1, h2, h3, h4, h5, h6, h7, h8, h9, hA a (Array.getElem?_eq_some_iff.mp h5).1⟩
theorem vx_isRef {C n d : String} {v : Value} {A : Nat → Prop} {s : State} {args : Array Value} (h : va_Z C n d v A s s.heap) (hv : v.isRef = true) : (Cond.isRef (.static C n d)).before args s = true := by
  obtain ⟨cf, kf, fi, f, a, cell, h1, h2, h3, h4, h5, h6, h7, -⟩ := h
  have he : (Term.static C n d).eval args s none [] s = some v := by
    simp [Term.eval, State.fieldNamed?, h1, h2, h4, h5, h6, h7]
  simp only [Cond.before, Cond.holds, Cond.value, he]
  cases v <;> simp_all [Value.isRef]
theorem vx_isRefq {C n d : String} {A : Nat → Prop} {s : State} {args : Array Value} (h : va_Zq C n d A s s.heap) : (Cond.isRef (.static C n d)).before args s = true := by
  rcases h with h | ⟨t, h⟩
  · exact vx_isRef h rfl
  · exact vx_isRef h rfl
/-- the same frame, seen from here: as if the method were called anew in this heap -/
theorem vx_rebase {T : State} (X : Stand p l e R s m args below meth c T locs cells slots) {R' : Room} (hf : R'.frames ≤ R.frames) (hl : R'.locals ≤ R.locals) (hc : cells + R'.cells ≤ R.cells) (hs : slots + R'.slots ≤ R.slots) :
    Stand p l e R' ((T.setVm s.vm).setFrames (.invoking m args :: below)) m args below meth c T [] 0 0 := by
  have htop : (T.setVm s.vm).topJava?.isSome := X.here.top
  have hF : ((T.setVm s.vm).setFrames (.invoking m args :: below)).frames = .invoking m args :: below := State.frames_setFrames _ (State.cur_lt_of_top htop)
  obtain ⟨g₀, hg0⟩ := Option.isSome_iff_exists.mp htop
  obtain ⟨r, hr⟩ := State.topJava?_eq_some.mp hg0
  have hl9 : e.platform.stackLimits (T.setVm s.vm).me = e.platform.stackLimits s.me := X.limits
  have hb9 : (T.setVm s.vm).me.stackBytes = s.me.stackBytes := X.bytes
  refine ⟨X.admits, X.cas, X.clock, hF, ?_, X.hears, X.method, X.code, X.here, X.tail, X.warmed, ?_, ?_, ?_⟩
  · have h := X.room
    have hU : ((T.setVm s.vm).setFrames (.invoking m args :: below)).localsInUse = s.localsInUse := by
      rw [State.localsInUse_invoking hF (meth := meth) (c := c) X.method X.code, State.localsInUse_invoking X.frames X.method X.code]
    simp only [State.hasRoom, Bool.and_eq_true, decide_eq_true_eq] at h ⊢
    obtain ⟨⟨⟨⟨h1, h2, h3, h4, h5, h6⟩, h7⟩, h8⟩, h9⟩ := h
    rw [X.frames, List.length_cons] at h2 h3
    have q1 := X.heapSize
    have q2 := X.used
    simp only [hF, hU, List.length_cons, State.stackLimits_setFrames, State.stackBytes_setFrames, hl9, hb9]
    refine ⟨⟨⟨⟨by omega, by omega, by omega, by omega, by omega, h6⟩, ?_⟩, ?_⟩, X.book⟩
    · show T.heap.size + R'.cells ≤ e.platform.maxCells
      omega
    · show T.slotsUsed + R'.slots ≤ e.platform.maxSlots
      omega
  · rw [State.stackLimits_setFrames]; rfl
  · rw [State.stackBytes_setFrames]; rfl
  · refine ⟨?_, Nat.le_refl _, Nat.le_refl _, ?_, ?_, fun a c9 h9 => ⟨c9, h9, rfl, rfl, fun _ _ => rfl⟩⟩
    · obtain ⟨t, ht, -⟩ := State.frames_cons hr
      show T.setVm s.vm = { ((T.setVm s.vm).setFrames (.invoking m args :: below)).setFrames (T.setVm s.vm).frames with heap := T.heap, slotsUsed := T.slotsUsed }
      rw [State.setFrames_setFrames, State.setFrames_self ht]
      rfl
    · show T.slotsUsed = T.slotsUsed + ((T.heap.toList.drop T.heap.size).map (·.slots.size)).sum
      rw [List.drop_eq_nil_of_le (Nat.le_of_eq Array.length_toList)]
      rfl
    · show ((T.heap.toList.drop T.heap.size).map (·.slots.size)).sum ≤ 0
      rw [List.drop_eq_nil_of_le (Nat.le_of_eq Array.length_toList)]
      exact Nat.le_refl _
/-- 'throw new E()': new; dup; invokespecial; athrow -/
theorem vx_throw0 {cc : ByteArray} {pc : Nat} (hexec : p.tables.exec = Jvm.exec) (hb : c.code = cc) (hl : l.stackTraces = false) {own cls : String} {names : List String} {ik ic mc ms : Nat} {A : Nat → Prop}
    (hown : s.vm.findClass own = some m.cls) (hcls : Bundle.fit cls = true) (hnames : ∀ n ∈ names, Bundle.fit n = true)
    (hk : (Cond.classLink own ik cls).before args s = true) (hini : (Cond.initialized cls).before args s = true) (hat : ∀ w ∈ vx_at0 own ic cls names, w.before args s = true)
    (hgood : ∀ w ∈ Cond.classLink own ik cls :: Cond.initialized cls :: vx_at0 own ic cls names, vx_ot w = true)
    (hU : vx_Zq Bundle.tN "UNASSIGNED_STACK" Bundle.steD A s s.heap) (hN : vx_Zq Bundle.tN "SUPPRESSED_SENTINEL" Bundle.listD A s s.heap) (hS : va_S A s.heap H locs) (hsize : ls.size = c.maxLocals)
    (d0 : decode cc pc = .ok (.new ik, 3)) (d3 : decode cc (pc + 3) = .ok (.dup, 1)) (d4 : decode cc (pc + 4) = .ok (.invokespecial ic, 3)) (d7 : decode cc (pc + 7) = .ok (.athrow, 1))
    (hout : ∀ x ∈ c.exceptionTable.toList, covers x (pc + 7) = false)
    (hRframes : names.length + 3 < R.frames) (hRlocals : (rest.map fun v => v.category).sum + (13 * (names.length + 1) + 42) ≤ R.locals) (hRcells : cells + 1 ≤ R.cells) (hRslots : slots + 6 ≤ R.slots) (hlocks : meth.locks = false)
    (hx : ∀ t : State, s.vm.Alike t.vm → H.size ≤ t.heap.size → (∀ q : Nat, q < H.size → t.heap[q]? = H[q]?) → XC cls s t)
    (hf : ∀ z ∈ locs, free z.base) (hc : cells + 1 ≤ mc) (hs : slots + 6 ≤ ms) :
    W p l e R s m args below meth c H locs cells slots (vx_MQ below Qc XC args s mc ms free) (F0 m pc ls rest) := by
  intro T hT X
  have htr : e.platform.stackTraces = false := (show e.platform.stackTraces = l.stackTraces by rw [X.admits.platform]).trans hl
  have Y := vx_rebase X (R' := { frames := R.frames, locals := R.locals, cells := 1, slots := 6 }) (Nat.le_refl _) (Nat.le_refl _) hRcells hRslots
  obtain ⟨s', hA⟩ : ∃ z, z = (T.setVm s.vm).setFrames (.invoking m args :: below) := ⟨_, rfl⟩
  rw [← hA] at Y
  have hvm : s'.vm = s.vm := by rw [hA]; rfl
  have hhp : s'.heap = H := by rw [hA]; exact hT
  have hW0 : s.WarmedH s'.vm := by rw [hvm]; exact State.WarmedH.refl s
  have hat' : ∀ w ∈ vx_at0 own ic cls names, w.before args s' = true := fun w hw => vx_ot_at hW0 hvm.symm (hgood w (List.mem_cons_of_mem _ (List.mem_cons_of_mem _ hw))) (hat w hw)
  have hk' : (Cond.classLink own ik cls).before args s' = true := vx_ot_at hW0 hvm.symm (hgood _ List.mem_cons_self) hk
  have hini' : (Cond.initialized cls).before args s' = true := vx_ot_at hW0 hvm.symm (hgood _ (List.mem_cons_of_mem _ List.mem_cons_self)) hini
  have hU' : vx_Zq Bundle.tN "UNASSIGNED_STACK" Bundle.steD A s' s'.heap := by rw [hhp]; exact vx_Zq.moved hW0.alike (hU.kept hS.2.1)
  have hN' : vx_Zq Bundle.tN "SUPPRESSED_SENTINEL" Bundle.listD A s' s'.heap := by rw [hhp]; exact vx_Zq.moved hW0.alike (hN.kept hS.2.1)
  have h : ∀ w ∈ Bundle.ownAtoms0 own ic cls names, w.before args s' = true := vx_own hat' (vx_isRefq hU'.1) (vx_isRefq hN'.1) hU'.2.word hN'.2.word
  have hown' : s'.vm.findClass own = some m.cls := by rw [hvm]; exact hown
  have hins : (Cond.instantiable cls 6).before args s' = true := h _ (by simp [Bundle.ownAtoms0])
  obtain ⟨vm₁, cX, kX, hfX, hkX, -, -, X₁, st1⟩ := Y.newCold hexec (own := own) (C := cls) (index := ik) (n := 6) hown' hk' hins hini'
    (g := F0 m pc ls rest) rfl (by rw [hb]; exact d0) (Nat.le_refl _) (Nat.le_refl _)
  generalize hT1 : (T.setVm vm₁).pushCell { cls := cX, slots := kX.instanceTypes.map defaultValue, vm := .none } = T1 at X₁ st1
  have hcat : (Value.ref T.heap.size).category = 1 := rfl
  have hcellA : T1.heap[T.heap.size]? = some (freshCell cX kX) := by rw [← hT1]; exact State.heap_pushCell_size _ _
  have d3' : decode c.code (pc + 3) = .ok (.dup, 1) := by rw [hb]; exact d3
  obtain ⟨U, hsteps, hrun, hend, hW, hsame, ce, hce, hO⟩ := X₁.ctorThrow0 hexec htr (own := own) (cls := cls) (names := names) (ic := ic) hown' hcls hnames h (fun x hx => nomatch hx) hfX hkX hcellA (by rw [hhp, hT]; exact Nat.le_refl _)
    (g := { method := m, pc := pc + 4, locals := ls, stack := .ref T.heap.size :: .ref T.heap.size :: rest, locked := none }) rfl hsize rfl rfl (rest := rest) rfl
    (by rw [hb]; exact d4) (by rw [hb]; exact d7) hout hRframes (by simp only [List.map_cons, List.sum_cons, hcat]; omega) hlocks
  obtain ⟨f1, f2⟩ := vx_frame hsame
  rw [hhp] at f1 f2
  have hWs : s.WarmedH U.vm := State.WarmedH.trans hW0 hW
  have hcl : s.vm.findClass cls = some ce.cls := by
    have h9 := hO.cls
    rw [hvm] at h9
    exact h9
  have hall : s.sameButNew ({ U with vm := s.vm } : State) locs mc ms := by
    subst hA
    obtain ⟨e1, e2⟩ := hsame
    rw [State.setFrames_setFrames] at e1
    have h2 : (T.setVm s.vm).sameButNew ({ U with vm := s.vm } : State) [] (0 + 1) (0 + 6) := ⟨e1, e2⟩
    have h3 := X.same.trans h2
    rw [List.append_nil] at h3
    exact h3.mono hc hs
  refine ⟨U, ?_, .threw T.heap.size, hrun, hend, Or.inr ⟨T.heap.size, rfl, cls, ce, locs, hx U hWs.alike f1 (fun q hq => f2 q hq (fun z hz => nomatch hz)), hce, hO.vm, hcl, hWs, hall, hf⟩⟩
  refine st1 _ ?_
  show Steps p.tables e below (T1.setTop { method := m, pc := pc + 3, locals := ls, stack := .ref T.heap.size :: rest, locked := none }) _
  jvm_step X₁.here [X₁.here.top, hexec, d3', Value.category]
  exact hsteps
/-- 'throw new E("text")': new; dup; ldc; invokespecial; athrow -/
theorem vx_throwS {cc : ByteArray} {pc : Nat} (hexec : p.tables.exec = Jvm.exec) (hb : c.code = cc) (hl : l.stackTraces = false) {own cls text : String} {names : List String} {ik is ic mc ms sa : Nat} {A : Nat → Prop}
    (hown : s.vm.findClass own = some m.cls) (hcls : Bundle.fit cls = true) (hnames : ∀ n ∈ names, Bundle.fit n = true)
    (hk : (Cond.classLink own ik cls).before args s = true) (hini : (Cond.initialized cls).before args s = true) (hstr : vk_R own is text sa s) (hat : ∀ w ∈ vx_atS own ic cls names, w.before args s = true)
    (hgood : ∀ w ∈ Cond.classLink own ik cls :: Cond.initialized cls :: vx_atS own ic cls names, vx_ot w = true)
    (hU : vx_Zq Bundle.tN "UNASSIGNED_STACK" Bundle.steD A s s.heap) (hN : vx_Zq Bundle.tN "SUPPRESSED_SENTINEL" Bundle.listD A s s.heap) (hS : va_S A s.heap H locs) (hsize : ls.size = c.maxLocals)
    (d0 : decode cc pc = .ok (.new ik, 3)) (d3 : decode cc (pc + 3) = .ok (.dup, 1)) (d4 : decode cc (pc + 4) = .ok (.ldc is, 2)) (d6 : decode cc (pc + 6) = .ok (.invokespecial ic, 3)) (d9 : decode cc (pc + 9) = .ok (.athrow, 1))
    (hout : ∀ x ∈ c.exceptionTable.toList, covers x (pc + 9) = false)
    (hRframes : names.length + 3 < R.frames) (hRlocals : (rest.map fun v => v.category).sum + (13 * (names.length + 1) + 43) ≤ R.locals) (hRcells : cells + 1 ≤ R.cells) (hRslots : slots + 6 ≤ R.slots) (hlocks : meth.locks = false)
    (hx : ∀ t : State, s.vm.Alike t.vm → H.size ≤ t.heap.size → (∀ q : Nat, q < H.size → t.heap[q]? = H[q]?) → XC cls s t)
    (hf : ∀ z ∈ locs, free z.base) (hc : cells + 1 ≤ mc) (hs : slots + 6 ≤ ms) :
    W p l e R s m args below meth c H locs cells slots (vx_MQ below Qc XC args s mc ms free) (F0 m pc ls rest) := by
  intro T hT X
  have htr : e.platform.stackTraces = false := (show e.platform.stackTraces = l.stackTraces by rw [X.admits.platform]).trans hl
  have Y := vx_rebase X (R' := { frames := R.frames, locals := R.locals, cells := 1, slots := 6 }) (Nat.le_refl _) (Nat.le_refl _) hRcells hRslots
  obtain ⟨s', hA⟩ : ∃ z, z = (T.setVm s.vm).setFrames (.invoking m args :: below) := ⟨_, rfl⟩
  rw [← hA] at Y
  have hvm : s'.vm = s.vm := by rw [hA]; rfl
  have hhp : s'.heap = H := by rw [hA]; exact hT
  have hW0 : s.WarmedH s'.vm := by rw [hvm]; exact State.WarmedH.refl s
  have hat' : ∀ w ∈ vx_atS own ic cls names, w.before args s' = true := fun w hw => vx_ot_at hW0 hvm.symm (hgood w (List.mem_cons_of_mem _ (List.mem_cons_of_mem _ hw))) (hat w hw)
  have hk' : (Cond.classLink own ik cls).before args s' = true := vx_ot_at hW0 hvm.symm (hgood _ List.mem_cons_self) hk
  have hini' : (Cond.initialized cls).before args s' = true := vx_ot_at hW0 hvm.symm (hgood _ (List.mem_cons_of_mem _ List.mem_cons_self)) hini
  have hU' : vx_Zq Bundle.tN "UNASSIGNED_STACK" Bundle.steD A s' s'.heap := by rw [hhp]; exact vx_Zq.moved hW0.alike (hU.kept hS.2.1)
  have hN' : vx_Zq Bundle.tN "SUPPRESSED_SENTINEL" Bundle.listD A s' s'.heap := by rw [hhp]; exact vx_Zq.moved hW0.alike (hN.kept hS.2.1)
  have h : ∀ w ∈ Bundle.ownAtoms own ic cls names, w.before args s' = true := vx_own hat' (vx_isRefq hU'.1) (vx_isRefq hN'.1) hU'.2.word hN'.2.word
  have hown' : s'.vm.findClass own = some m.cls := by rw [hvm]; exact hown
  have hins : (Cond.instantiable cls 6).before args s' = true := h _ (by simp [Bundle.ownAtoms])
  obtain ⟨vm₁, cX, kX, hfX, hkX, -, -, X₁, st1⟩ := Y.newCold hexec (own := own) (C := cls) (index := ik) (n := 6) hown' hk' hins hini'
    (g := F0 m pc ls rest) rfl (by rw [hb]; exact d0) (Nat.le_refl _) (Nat.le_refl _)
  generalize hT1 : (T.setVm vm₁).pushCell { cls := cX, slots := kX.instanceTypes.map defaultValue, vm := .none } = T1 at X₁ st1
  have hcat : (Value.ref T.heap.size).category = 1 := rfl
  have hcellA : T1.heap[T.heap.size]? = some (freshCell cX kX) := by rw [← hT1]; exact State.heap_pushCell_size _ _
  have d3' : decode c.code (pc + 3) = .ok (.dup, 1) := by rw [hb]; exact d3
  have d4' : decode c.code (pc + 4) = .ok (.ldc is, 2) := by rw [hb]; exact d4
  have hstr' : vk_R own is text sa s' := vk_R.warm hW0 hstr
  obtain ⟨U, hsteps, hrun, hend, hW, hsame, ce, hce, hO⟩ := X₁.ctorThrowS hexec htr (own := own) (cls := cls) (names := names) (ic := ic) hown' hcls hnames h (fun x hx => nomatch hx) hfX hkX hcellA (by rw [hhp, hT]; exact Nat.le_refl _) (msg := .ref sa) rfl
    (g := { method := m, pc := pc + 6, locals := ls, stack := .ref sa :: .ref T.heap.size :: .ref T.heap.size :: rest, locked := none }) rfl hsize rfl rfl (rest := rest) rfl
    (by rw [hb]; exact d6) (by rw [hb]; exact d9) hout hRframes (by simp only [List.map_cons, List.sum_cons, hcat]; omega) hlocks
  obtain ⟨f1, f2⟩ := vx_frame hsame
  rw [hhp] at f1 f2
  have hWs : s.WarmedH U.vm := State.WarmedH.trans hW0 hW
  have hcl : s.vm.findClass cls = some ce.cls := by
    have h9 := hO.cls
    rw [hvm] at h9
    exact h9
  have hall : s.sameButNew ({ U with vm := s.vm } : State) locs mc ms := by
    subst hA
    obtain ⟨e1, e2⟩ := hsame
    rw [State.setFrames_setFrames] at e1
    have h2 : (T.setVm s.vm).sameButNew ({ U with vm := s.vm } : State) [] (0 + 1) (0 + 6) := ⟨e1, e2⟩
    have h3 := X.same.trans h2
    rw [List.append_nil] at h3
    exact h3.mono hc hs
  refine ⟨U, ?_, .threw T.heap.size, hrun, hend, Or.inr ⟨T.heap.size, rfl, cls, ce, locs, hx U hWs.alike f1 (fun q hq => f2 q hq (fun z hz => nomatch hz)), hce, hO.vm, hcl, hWs, hall, hf⟩⟩
  refine st1 _ ?_
  show Steps p.tables e below (T1.setTop { method := m, pc := pc + 3, locals := ls, stack := .ref T.heap.size :: rest, locked := none }) _
  jvm_step X₁.here [X₁.here.top, hexec, d3', Value.category]
  exact X₁.ldcString hexec (own := own) (text := text) (index := is) (a := sa) hown' hstr'.1 hstr'.2
    (g := { method := m, pc := pc + 4, locals := ls, stack := .ref T.heap.size :: .ref T.heap.size :: rest, locked := none }) rfl d4' _ hsteps
/-- 'throw new E("text")', the text by a wide index -/
theorem vx_throwSW {cc : ByteArray} {pc : Nat} (hexec : p.tables.exec = Jvm.exec) (hb : c.code = cc) (hl : l.stackTraces = false) {own cls text : String} {names : List String} {ik is ic mc ms sa : Nat} {A : Nat → Prop}
    (hown : s.vm.findClass own = some m.cls) (hcls : Bundle.fit cls = true) (hnames : ∀ n ∈ names, Bundle.fit n = true)
    (hk : (Cond.classLink own ik cls).before args s = true) (hini : (Cond.initialized cls).before args s = true) (hstr : vk_R own is text sa s) (hat : ∀ w ∈ vx_atS own ic cls names, w.before args s = true)
    (hgood : ∀ w ∈ Cond.classLink own ik cls :: Cond.initialized cls :: vx_atS own ic cls names, vx_ot w = true)
    (hU : vx_Zq Bundle.tN "UNASSIGNED_STACK" Bundle.steD A s s.heap) (hN : vx_Zq Bundle.tN "SUPPRESSED_SENTINEL" Bundle.listD A s s.heap) (hS : va_S A s.heap H locs) (hsize : ls.size = c.maxLocals)
    (d0 : decode cc pc = .ok (.new ik, 3)) (d3 : decode cc (pc + 3) = .ok (.dup, 1)) (d4 : decode cc (pc + 4) = .ok (.ldc_w is, 3)) (d7 : decode cc (pc + 7) = .ok (.invokespecial ic, 3)) (d10 : decode cc (pc + 10) = .ok (.athrow, 1))
    (hout : ∀ x ∈ c.exceptionTable.toList, covers x (pc + 10) = false)
    (hRframes : names.length + 3 < R.frames) (hRlocals : (rest.map fun v => v.category).sum + (13 * (names.length + 1) + 43) ≤ R.locals) (hRcells : cells + 1 ≤ R.cells) (hRslots : slots + 6 ≤ R.slots) (hlocks : meth.locks = false)
    (hx : ∀ t : State, s.vm.Alike t.vm → H.size ≤ t.heap.size → (∀ q : Nat, q < H.size → t.heap[q]? = H[q]?) → XC cls s t)
    (hf : ∀ z ∈ locs, free z.base) (hc : cells + 1 ≤ mc) (hs : slots + 6 ≤ ms) :
    W p l e R s m args below meth c H locs cells slots (vx_MQ below Qc XC args s mc ms free) (F0 m pc ls rest) := by
  intro T hT X
  have htr : e.platform.stackTraces = false := (show e.platform.stackTraces = l.stackTraces by rw [X.admits.platform]).trans hl
  have Y := vx_rebase X (R' := { frames := R.frames, locals := R.locals, cells := 1, slots := 6 }) (Nat.le_refl _) (Nat.le_refl _) hRcells hRslots
  obtain ⟨s', hA⟩ : ∃ z, z = (T.setVm s.vm).setFrames (.invoking m args :: below) := ⟨_, rfl⟩
  rw [← hA] at Y
  have hvm : s'.vm = s.vm := by rw [hA]; rfl
  have hhp : s'.heap = H := by rw [hA]; exact hT
  have hW0 : s.WarmedH s'.vm := by rw [hvm]; exact State.WarmedH.refl s
  have hat' : ∀ w ∈ vx_atS own ic cls names, w.before args s' = true := fun w hw => vx_ot_at hW0 hvm.symm (hgood w (List.mem_cons_of_mem _ (List.mem_cons_of_mem _ hw))) (hat w hw)
  have hk' : (Cond.classLink own ik cls).before args s' = true := vx_ot_at hW0 hvm.symm (hgood _ List.mem_cons_self) hk
  have hini' : (Cond.initialized cls).before args s' = true := vx_ot_at hW0 hvm.symm (hgood _ (List.mem_cons_of_mem _ List.mem_cons_self)) hini
  have hU' : vx_Zq Bundle.tN "UNASSIGNED_STACK" Bundle.steD A s' s'.heap := by rw [hhp]; exact vx_Zq.moved hW0.alike (hU.kept hS.2.1)
  have hN' : vx_Zq Bundle.tN "SUPPRESSED_SENTINEL" Bundle.listD A s' s'.heap := by rw [hhp]; exact vx_Zq.moved hW0.alike (hN.kept hS.2.1)
  have h : ∀ w ∈ Bundle.ownAtoms own ic cls names, w.before args s' = true := vx_own hat' (vx_isRefq hU'.1) (vx_isRefq hN'.1) hU'.2.word hN'.2.word
  have hown' : s'.vm.findClass own = some m.cls := by rw [hvm]; exact hown
  have hins : (Cond.instantiable cls 6).before args s' = true := h _ (by simp [Bundle.ownAtoms])
  obtain ⟨vm₁, cX, kX, hfX, hkX, -, -, X₁, st1⟩ := Y.newCold hexec (own := own) (C := cls) (index := ik) (n := 6) hown' hk' hins hini'
    (g := F0 m pc ls rest) rfl (by rw [hb]; exact d0) (Nat.le_refl _) (Nat.le_refl _)
  generalize hT1 : (T.setVm vm₁).pushCell { cls := cX, slots := kX.instanceTypes.map defaultValue, vm := .none } = T1 at X₁ st1
  have hcat : (Value.ref T.heap.size).category = 1 := rfl
  have hcellA : T1.heap[T.heap.size]? = some (freshCell cX kX) := by rw [← hT1]; exact State.heap_pushCell_size _ _
  have d3' : decode c.code (pc + 3) = .ok (.dup, 1) := by rw [hb]; exact d3
  have d4' : decode c.code (pc + 4) = .ok (.ldc_w is, 3) := by rw [hb]; exact d4
  have hstr' : vk_R own is text sa s' := vk_R.warm hW0 hstr
  obtain ⟨U, hsteps, hrun, hend, hW, hsame, ce, hce, hO⟩ := X₁.ctorThrowS hexec htr (own := own) (cls := cls) (names := names) (ic := ic) hown' hcls hnames h (fun x hx => nomatch hx) hfX hkX hcellA (by rw [hhp, hT]; exact Nat.le_refl _) (msg := .ref sa) rfl
    (g := { method := m, pc := pc + 7, locals := ls, stack := .ref sa :: .ref T.heap.size :: .ref T.heap.size :: rest, locked := none }) rfl hsize rfl rfl (rest := rest) rfl
    (by rw [hb]; exact d7) (by rw [hb]; exact d10) hout hRframes (by simp only [List.map_cons, List.sum_cons, hcat]; omega) hlocks
  obtain ⟨f1, f2⟩ := vx_frame hsame
  rw [hhp] at f1 f2
  have hWs : s.WarmedH U.vm := State.WarmedH.trans hW0 hW
  have hcl : s.vm.findClass cls = some ce.cls := by
    have h9 := hO.cls
    rw [hvm] at h9
    exact h9
  have hall : s.sameButNew ({ U with vm := s.vm } : State) locs mc ms := by
    subst hA
    obtain ⟨e1, e2⟩ := hsame
    rw [State.setFrames_setFrames] at e1
    have h2 : (T.setVm s.vm).sameButNew ({ U with vm := s.vm } : State) [] (0 + 1) (0 + 6) := ⟨e1, e2⟩
    have h3 := X.same.trans h2
    rw [List.append_nil] at h3
    exact h3.mono hc hs
  refine ⟨U, ?_, .threw T.heap.size, hrun, hend, Or.inr ⟨T.heap.size, rfl, cls, ce, locs, hx U hWs.alike f1 (fun q hq => f2 q hq (fun z hz => nomatch hz)), hce, hO.vm, hcl, hWs, hall, hf⟩⟩
  refine st1 _ ?_
  show Steps p.tables e below (T1.setTop { method := m, pc := pc + 3, locals := ls, stack := .ref T.heap.size :: rest, locked := none }) _
  jvm_step X₁.here [X₁.here.top, hexec, d3', Value.category]
  exact X₁.ldcStringW hexec (own := own) (text := text) (index := is) (a := sa) hown' hstr'.1 hstr'.2
    (g := { method := m, pc := pc + 4, locals := ls, stack := .ref T.heap.size :: .ref T.heap.size :: rest, locked := none }) rfl d4' _ hsteps
end Ends
section Bodies
variable {l : Launch}
theorem vx_ofW {y : MethodName} {ws ws' : List Cond} {rm : Room} {Pc : Array Value → State → Prop} {Qc : Array Value → State → Outcome → State → Prop} {XC : String → State → State → Prop} {mc ms : Nat} {free : Addr → Prop} {cc : ByteArray} {maxL : Nat} {ret : Option FieldType}
    (hy : plainName y.cls = true) (hw : ws = Cond.code y cc maxL ret :: ws')
    (body : ∀ p e s m args below meth c s₁, BodyLoose p l y (headSpec ws rm) cc maxL ret e s m args below meth c s₁ → c.maxLocals = maxL → (∀ x ∈ c.exceptionTable.toList, False) → Pc args s →
      W p l e (headSpec ws rm).room s m args below meth c s.heap [] 0 0 (vx_MQ below Qc XC args s mc ms free) (entryFrame m args maxL)) : vx_Met l y ws rm Pc Qc XC mc ms free := by
  refine MetFree.of_bodyS (code := cc) (maxLocals := maxL) (ret := ret) hy ?_ ?_
  · intro args s m h hn
    obtain ⟨meth, c, h1, h2, h3, h4, h5, h6, -, -⟩ := Cond.code_spec hn (atoms_spec (ws := ws) h _ (by rw [hw]; exact List.mem_cons_self))
    exact ⟨meth, c, h1, h2, h3, h4, h5, h6⟩
  · intro p e s m args below meth c s₁ B hml hP _
    have hh0 : s₁.heap = s.heap := by rw [B.state]; rfl
    have ht : ∀ x ∈ c.exceptionTable.toList, False := by
      obtain ⟨meth9, c9, h1, h2, -, -, -, -, h7, -⟩ := Cond.code_spec B.named (atoms_spec (ws := ws) B.pre _ (by rw [hw]; exact List.mem_cons_self))
      cases Option.some.inj (h1.symm.trans B.method)
      cases Option.some.inj (h2.symm.trans (Stand.of_body B).code)
      intro x hx
      rw [Array.isEmpty_iff.mp h7] at hx
      cases hx
    obtain ⟨t, a1, o, b1, b2, b3⟩ := body p e s m args below meth c s₁ B hml ht hP s₁ hh0 (Stand.of_body B)
    exact ⟨t, o, a1, b1, b2, b3⟩
/-- the table of a body with handlers -/
theorem vx_table {p : Program} {x y : MethodName} {S : Spec} {cc bytes : ByteArray} {maxL maxL' : Nat} {ret ret' : Option FieldType} {e : Env} {s s₁ : State} {m : MethodId} {args : Array Value} {below : List Frame} {meth : Method} {c : Code} {hh : List (Nat × Nat × Nat × Nat)}
    (B : BodyLoose p l y S cc maxL ret e s m args below meth c s₁) (h : (Cond.codeWith y bytes maxL' ret' hh).before args s = true) : c.exceptionTable.toList = tableOf hh := by
  obtain ⟨m9, meth9, c9, hn9, h1, h2, -, -, h6, -⟩ := Cond.codeWith_spec h
  cases Option.some.inj (hn9.symm.trans B.named)
  cases Option.some.inj (h1.symm.trans B.method)
  cases Option.some.inj (h2.symm.trans (Stand.of_body B).code)
  rw [← h6, table_eq]
end Bodies
end VXA
/-! ===== END ===== -/
/-! ===== BEGIN a static call of a method with an exception table ===== -/
section VXS
variable {p : Program} {l : Launch} {e : Env} {R : Room} {s : State} {m : MethodId} {args : Array Value} {below : List Frame} {meth : Method} {c : Code} {T : State} {H : Heap} {locs : List Loc} {cells slots : Nat}
abbrev vx_CSW (R : Room) (s : State) (args : Array Value) (own : String) (index : Nat) (y : MethodName) (bytes : ByteArray) (maxL : Nat) (ret : Option FieldType) (hh : List (Nat × Nat × Nat × Nat)) (ws : List Cond) (rm : Room) (mc ms n : Nat) : Prop :=
  (rm.cells = mc ∧ rm.slots = ms ∧ rm.frames + 1 ≤ R.frames ∧ 8 + (maxL + 11) + rm.locals ≤ R.locals ∧ (∀ w ∈ ws, ∀ (a' : Array Value) (U : State), s.WarmedH U.vm → w.before a' U = true) ∧ Cond.codeWith y bytes maxL ret hh ∈ ws) ∧
  (Cond.codeWith y bytes maxL ret hh).before args s = true ∧ (Cond.initialized y.cls).before args s = true ∧ (y.cls ≠ "java/lang/invoke/MethodHandle" ∧ y.cls ≠ "java/lang/invoke/VarHandle") ∧
  (∀ sig, parseMethodDescriptor y.desc = some sig → n = sig.parameters.length) ∧ (Cond.methodLink own index y).before args s = true ∧ (Cond.static y).before args s = true
theorem vx_cwSW {own : String} {index maxL mc ms : Nat} {y : MethodName} {bytes : ByteArray} {ret : Option FieldType} {hh : List (Nat × Nat × Nat × Nat)} {Ts ws ws' : List Cond} {rm : Room} (n : Nat) (ht : ∀ w ∈ Ts, w.before args s = true) (hT : GoodIn Ts (va_wsS own index y ws)) (hw : ws = Cond.codeWith y bytes maxL ret hh :: ws') (hrc : rm.cells = mc) (hrs : rm.slots = ms)
    (hd : y.cls ≠ "java/lang/invoke/MethodHandle" ∧ y.cls ≠ "java/lang/invoke/VarHandle" ∧ (parseMethodDescriptor y.desc).map (fun d => d.parameters.length) = some n) (hR : rm.frames + 1 ≤ R.frames ∧ 8 + (maxL + 11) + rm.locals ≤ R.locals) :
    vx_CSW R s args own index y bytes maxL ret hh ws rm mc ms n := by
  have ok : ∀ w ∈ va_wsS own index y ws, w.before args s = true := fun w h => ht w (hT w h).1
  have hG : GoodIn Ts ws := fun w h => hT w (by unfold va_wsS; exact List.mem_append_right _ h)
  have hc : Cond.codeWith y bytes maxL ret hh ∈ ws := by rw [hw]; exact List.mem_cons_self
  refine ⟨⟨hrc, hrs, hR.1, hR.2, pay_in ht hG, hc⟩, ht _ (hG _ hc).1, ok _ (by simp [va_wsS]), ⟨hd.1, hd.2.1⟩, fun sig h => ?_, ok _ (by simp [va_wsS]), ok _ (by simp [va_wsS])⟩
  have h2 := hd.2.2
  rw [h] at h2
  exact (Option.some.inj h2).symm
theorem vx_callSW (X : Stand p l e R s m args below meth c T locs cells slots) (hexec : p.tables.exec = Jvm.exec) {own : String} {index : Nat} {y : MethodName} {bytes : ByteArray} {maxL : Nat} {ret : Option FieldType} {hh : List (Nat × Nat × Nat × Nat)}
    (hown : s.vm.findClass own = some m.cls) (hlink : (Cond.methodLink own index y).before args s = true) (hstat : (Cond.static y).before args s = true) (hinit : (Cond.initialized y.cls).before args s = true)
    (hcode : (Cond.codeWith y bytes maxL ret hh).before args s = true) (hy : y.cls ≠ "java/lang/invoke/MethodHandle" ∧ y.cls ≠ "java/lang/invoke/VarHandle")
    {W9 : Nat} {Pre : Pt → Array Value → Prop} {Post : Pt → Array Value → Option Value → Pt → Prop} (hK : Back l R p e below s args y 3 W9 Pre Post)
    {g : JFrame} (hg : g.method = m) (hsize : g.locals.size = c.maxLocals) {argsL rest : List Value} (hlen : ∀ sig, parseMethodDescriptor y.desc = some sig → argsL.length = sig.parameters.length)
    (hstack : g.stack = argsL.reverse ++ rest) (hW : 2 * g.monitorRoom + (rest.map fun v => v.category).sum ≤ W9) (hdg : decode c.code g.pc = .ok (.invokestatic index, 3))
    (hpre : ∀ vm₁, s.WarmedH vm₁ → Pre ⟨T.setVm vm₁, locs, cells, slots⟩ argsL.toArray) :
    ∃ (v : Option Value) (vm₁ : Vm) (B : Pt), s.WarmedH vm₁ ∧ Stand p l e R s m args below meth c B.U B.locs B.cells B.slots ∧ Post ⟨T.setVm vm₁, locs, cells, slots⟩ argsL.toArray v B ∧
      ∀ target, Steps p.tables e below (B.U.setTop { g with pc := g.pc + 3, stack := v.toList ++ rest }) target → Steps p.tables e below (T.setTop g) target := by
  obtain ⟨mk, methM, cM, hnamed, hmethM, -, -, -, -, -, -, hsigM⟩ := Cond.codeWith_spec hcode
  have hstatic : methM.isStatic = true := Cond.static_spec hnamed hmethM hstat
  obtain ⟨kP, hkP, -⟩ := className_of_methodNamed hnamed
  have hinitP : kP.init = .initialized := Cond.initialized_spec (findClass_of_methodNamed hnamed) hkP hinit
  obtain ⟨vm₁, X₁, hstep₁⟩ := X.invokestatic hexec hown hlink hnamed hmethM hstatic hkP hinitP hy (g := g) hg (argsL := argsL) (rest := rest) (hlen _ hsigM) hstack hdg
  obtain ⟨v, B, X', hpost, hsteps⟩ := hK m meth c ⟨T.setVm vm₁, locs, cells, slots⟩ { g with stack := rest } (.invokestatic index) mk argsL.toArray X₁ hg hsize hdg hW (X₁.named hnamed) (hpre vm₁ X₁.warmed)
  exact ⟨v, vm₁, B, X₁.warmed, X', hpost, fun target h => hstep₁ _ fun acts => by rw [doInvoke_state]; exact hsteps.trans h⟩
theorem vx_runSW {y : MethodName} {bytes cc : ByteArray} {maxL nL mc ms n index : Nat} {ret : Option FieldType} {hh : List (Nat × Nat × Nat × Nat)} {ws : List Cond} {rm : Room} {Pc : Array Value → State → Prop} {Qc : Array Value → State → Outcome → State → Prop} {free : Addr → Prop} {Ts : List Cond} {own : String} {As rest : List Value} {g : JFrame}
    (S : CallFix p m c cc nL s args Ts own) (hM : Met l y ws rm Pc Qc mc ms free) (cw : vx_CSW R s args own index y bytes maxL ret hh ws rm mc ms n) (hp : PreS s H Pc As)
    (hg : g.method = m) (hn : As.length = n) (hsize : g.locals.size = nL) (hstack : g.stack = As.reverse ++ rest) (hW : 2 * g.monitorRoom + (rest.map fun v => v.category).sum ≤ 8) (hdg : decode cc g.pc = .ok (.invokestatic index, 3)) (hf : cells + mc ≤ R.cells ∧ slots + ms ≤ R.slots) :
    va_Run p l e R s m args below meth c H locs cells slots mc ms g rest (Qc As.toArray) (free) := by
  obtain ⟨⟨hrc, hrs, hfr, hlo, hws, hcw⟩, hcode, hini, hy, hlen, hl, hstt⟩ := cw
  have hK : Back l R p e below s args y 3 8 (PreOf R mc ms Pc) (PostOf Qc mc ms free) := va_backW (hh := hh) (bytes := bytes) (maxL := maxL) (ret := ret) hM hp.1 hrc hrs hfr hlo hws hcw (fun a' U hW => word_at hW (Or.inl (by first | rfl | simp [Cond.onTables, Cond.keeps, Cond.steady])) hini)
  obtain ⟨hx, hb, hml, ho, -⟩ := S
  intro T hT X
  obtain ⟨v, vm₁, ⟨U', l2, c2, s2⟩, hW₁, X', ⟨g', mk, t, L, e1, e2, hq, h1, hL, h2, h3⟩, st⟩ := vx_callSW X hx (hh := hh) (bytes := bytes) (maxL := maxL) (ret := ret) ho hl hstt hini hcode hy hK hg (hsize.trans hml.symm) (argsL := As) (rest := rest) (fun sig h => hn.trans (hlen sig h)) hstack hW (by rw [hb]; exact hdg)
    (fun vm₁ hW₁ => ⟨hf.1, hf.2, hp.2 (T.setVm vm₁) hT hW₁⟩)
  dsimp only [Pt.U, Pt.locs, Pt.cells, Pt.slots] at X' e1 e2 h1 h2 h3 st
  subst h1; subst h2; subst h3
  exact ⟨v, (T.setVm vm₁).calling g' mk As.toArray, t, U', L, hT, X', hL, e1, e2, hq, st⟩
/-- a thing of a world lies in the heap -/
theorem vx_lt {D : va_G} {cl : List vw_C} {ws : va_W} {H1 : Heap} (h : va_P D cl ws H1) {k : Nat} {q : Nat × va_E} (hk : ws[k]? = some q) : q.1 < H1.size := (h k q hk).lt
end VXS
/-! ===== END ===== -/
/-! ===== BEGIN methods with a table of their own: called by a name, returning or throwing ===== -/
section VXH
/-! vx_backW, vx_callVX, vx_callSX, vx_callVW, vx_runVW, vx_runVX, vx_runSX, vx_ofWH follow the same proofs as their sisters above (Free/Laws.lean, Shelf42/LK1.lean); vx_outP calls Shelf42/NT130.lean (outThrough). -/
section
variable {l : Launch} {R : Room} {p : Program} {e : Env} {below : List Frame} {s : State} {sargs : Array Value} {y : MethodName} {len W9 : Nat}
theorem vx_backW {ws : List Cond} {rm : Room} {Pc : Array Value → State → Prop} {Qc : Array Value → State → Outcome → State → Prop} {XC : String → State → State → Prop} {mc ms : Nat} {free : Addr → Prop} {bytes : ByteArray} {maxL : Nat} {ret : Option FieldType} {hh : List (Nat × Nat × Nat × Nat)}
    (hM : vx_Met l y ws rm Pc Qc XC mc ms free) (hblind : FrameBlind Pc) (hrc : rm.cells = mc) (hrs : rm.slots = ms)
    (hframes : rm.frames + 1 ≤ R.frames) (hlocals : W9 + (maxL + 11) + rm.locals ≤ R.locals)
    (hws : ∀ w ∈ ws, ∀ a' U, s.WarmedH U.vm → w.before a' U = true) (hcode : Cond.codeWith y bytes maxL ret hh ∈ ws) (hinit : ∀ a' U, s.WarmedH U.vm → (Cond.initialized y.cls).before a' U = true) :
    vx_Back l R p e below s sargs y len W9 (PreOf R mc ms Pc) (PostOf Qc mc ms free) (vx_Post XC mc ms free) := by
  intro m meth c A g ig mk a X hg hsize hdg hW hn hp
  have h1 : (headSpec ws rm).pre.before a A.U = true := atoms_intro fun w hw => hws w hw _ _ X.warmed
  have h2 : (Cond.codeWith y bytes maxL ret hh).before a A.U = true := hws _ hcode _ _ X.warmed
  have h3 : (Cond.initialized y.cls).before a A.U = true := hinit _ _ X.warmed
  have h4 : A.cells + (headSpec ws rm).room.cells ≤ R.cells := by rw [show (headSpec ws rm).room.cells = mc from hrc]; exact hp.1
  have h5 : A.slots + (headSpec ws rm).room.slots ≤ R.slots := by rw [show (headSpec ws rm).room.slots = ms from hrs]; exact hp.2.1
  have hPc : Pc a (A.U.calling g mk a) := hblind _ _ _ _ hp.2.2
  obtain ⟨U, Ls, c0, s0⟩ := A
  dsimp only [Pt.U, Pt.locs, Pt.cells, Pt.slots] at h1 h2 h3 h4 h5 X hn hPc ⊢
  obtain ⟨m9, methY, cY, hn9, hmY, hcY, -, hlY, -⟩ := Cond.codeWith_spec h2
  cases Option.some.inj (hn9.symm.trans hn)
  obtain ⟨kY, hkY, -⟩ := className_of_methodNamed hn
  have hinitY : kY.init = .initialized := Cond.initialized_spec (findClass_of_methodNamed hn) hkY h3
  have h : At U g.method c below := by rw [hg]; exact X.here
  have hlocals9 : W9 + (maxL + 11) + (headSpec ws rm).room.locals ≤ R.locals := hlocals
  have happ : (headSpec ws rm).appliesLoose y e.platform (U.calling g mk a) = true :=
    Spec.appliesLoose_calling (g := g) h hdg hn hkY hinitY
      (X.room_calling (g := g) (R' := (headSpec ws rm).room) hsize hmY hcY hframes (by rw [hlY]; omega) h4 h5) h1
  obtain ⟨mid, hmid⟩ := h.above
  have hfr : (U.setTop g).frames = (.java g :: mid) ++ below := by rw [State.frames_setTop' g h.top, hmid]; rfl
  obtain ⟨o, s₂, hsteps, -, hend, hq⟩ := Steps.callFree hM p X.admits X.cas X.clock (acts := []) hfr happ hPc trivial
  have hq' : vx_Q Qc XC mc ms free a (U.calling g mk a) o s₂ := hq
  rw [State.frames_setTop' g h.top] at hend
  obtain ⟨g₀, hg0⟩ := Option.isSome_iff_exists.mp h.top
  obtain ⟨r, hr⟩ := State.topJava?_eq_some.mp hg0
  have hr' : (({ U with heap := s₂.heap, slotsUsed := s₂.slotsUsed } : State).setVm s₂.vm).frames = .java g₀ :: r := hr
  rcases hq' with ⟨hqc, L, hfe, hL⟩ | ⟨q, rfl, E, ce, L, hx, hce, hcv, hcl, hW₂, hsm, hL⟩
  · obtain ⟨⟨v, rfl⟩, hW₂, e2, q2, q3, q4, q5, q6⟩ := id hfe
    have e3 : s₂ = ({ (U.calling g mk a).setFrames s₂.frames with heap := s₂.heap, slotsUsed := s₂.slotsUsed } : State).setVm s₂.vm := by
      have : s₂ = ({ s₂ with vm := (U.calling g mk a).vm } : State).setVm s₂.vm := rfl
      rw [e2] at this
      exact this
    obtain ⟨c₂, i₂, len₂, hc₂, hd₂, hf₂⟩ := hend
    have hW' : U.WarmedH s₂.vm := hW₂
    have hcc : c₂ = c := by
      have h1 : s₂.code? g.method = U.code? g.method := by
        rw [State.code?_eq, State.code?_eq, hW'.alike.method?]
      exact Option.some.inj (hc₂.symm.trans (h1.trans h.code))
    subst hcc
    have hlen : len₂ = len := by rw [hdg] at hd₂; cases hd₂; rfl
    subst hlen
    have hs₂ : s₂ = (({ U with heap := s₂.heap, slotsUsed := s₂.slotsUsed } : State).setVm s₂.vm).setTop { g with pc := g.pc + len₂, stack := v.toList ++ g.stack } := by
      refine e3.trans ?_
      rw [hf₂, State.calling_eq h.top, State.setFrames_setFrames, State.setTop_of_frames _ hr', hr]
      rfl
    have hsame : U.sameButNew ({ U with heap := s₂.heap, slotsUsed := s₂.slotsUsed } : State) L mc ms := by
      refine ⟨?_, q2, q3, q4, q5, q6⟩
      obtain ⟨t, ht, -⟩ := State.frames_cons hr
      show ({ U with heap := s₂.heap, slotsUsed := s₂.slotsUsed } : State) = { U.setFrames U.frames with heap := s₂.heap, slotsUsed := s₂.slotsUsed }
      rw [State.setFrames_self ht]
    subst hg
    refine Or.inl ⟨v, ⟨(({ U with heap := s₂.heap, slotsUsed := s₂.slotsUsed } : State).setVm s₂.vm), Ls ++ L, c0 + mc, s0 + ms⟩,
      ⟨X.admits, X.cas, X.clock, X.frames, X.room, X.hears, X.method, X.code, (X.here.setHeapUsed s₂.heap s₂.slotsUsed).setVm hW'.alike, X.tail, State.WarmedH.trans X.warmed hW', X.limits, X.bytes, X.same.trans (hsame.setVm s.vm)⟩,
      ⟨g, mk, s₂, L, rfl, rfl, hqc, rfl, hL, rfl, rfl⟩, ?_⟩
    show Steps p.tables e below _ ((({ U with heap := s₂.heap, slotsUsed := s₂.slotsUsed } : State).setVm s₂.vm).setTop { g with pc := g.pc + len₂, stack := v.toList ++ g.stack })
    rw [← hs₂]
    exact hsteps
  · obtain ⟨e2, q2, q3, q4, q5, q6⟩ := id hsm
    have e3 : s₂ = ({ (U.calling g mk a).setFrames s₂.frames with heap := s₂.heap, slotsUsed := s₂.slotsUsed } : State).setVm s₂.vm := by
      have : s₂ = ({ s₂ with vm := (U.calling g mk a).vm } : State).setVm s₂.vm := rfl
      rw [e2] at this
      exact this
    have hf₂ : s₂.frames = .throwing q :: .java g :: U.frames.tail := hend
    have hW' : U.WarmedH s₂.vm := hW₂
    have hs₂ : s₂ = ((({ U with heap := s₂.heap, slotsUsed := s₂.slotsUsed } : State).setVm s₂.vm).setTop g).pushFrame (.throwing q) := by
      refine e3.trans ?_
      rw [hf₂, State.calling_eq h.top, State.setFrames_setFrames, State.pushFrame, State.frames_setTop _ hr', State.setTop_of_frames _ hr', State.setFrames_setFrames, hr]
      rfl
    have hsame : U.sameButNew ({ U with heap := s₂.heap, slotsUsed := s₂.slotsUsed } : State) L mc ms := by
      refine ⟨?_, q2, q3, q4, q5, q6⟩
      obtain ⟨t, ht, -⟩ := State.frames_cons hr
      show ({ U with heap := s₂.heap, slotsUsed := s₂.slotsUsed } : State) = { U.setFrames U.frames with heap := s₂.heap, slotsUsed := s₂.slotsUsed }
      rw [State.setFrames_self ht]
    subst hg
    refine Or.inr ⟨q, ⟨(({ U with heap := s₂.heap, slotsUsed := s₂.slotsUsed } : State).setVm s₂.vm), Ls ++ L, c0 + mc, s0 + ms⟩,
      ⟨X.admits, X.cas, X.clock, X.frames, X.room, X.hears, X.method, X.code, (X.here.setHeapUsed s₂.heap s₂.slotsUsed).setVm hW'.alike, X.tail, State.WarmedH.trans X.warmed hW', X.limits, X.bytes, X.same.trans (hsame.setVm s.vm)⟩,
      ⟨g, mk, s₂, L, E, ce, rfl, rfl, hx, hce, hcv, hcl, rfl, hL, rfl, rfl⟩, ?_⟩
    show Steps p.tables e below _ (((({ U with heap := s₂.heap, slotsUsed := s₂.slotsUsed } : State).setVm s₂.vm).setTop g).pushFrame (.throwing q))
    rw [← hs₂]
    exact hsteps
end
variable {p : Program} {l : Launch} {e : Env} {R : Room} {s : State} {m : MethodId} {args : Array Value} {below : List Frame} {meth : Method} {c : Code} {T : State} {H : Heap} {locs : List Loc} {cells slots : Nat}
theorem vx_callVX (X : Stand p l e R s m args below meth c T locs cells slots) (hexec : p.tables.exec = Jvm.exec) {own C : String} {index : Nat} {y : MethodName} {bytes : ByteArray} {maxL : Nat} {ret : Option FieldType} {hh : List (Nat × Nat × Nat × Nat)}
    (hown : s.vm.findClass own = some m.cls) (hlink : (Cond.methodLink own index y).before args s = true) (hinst : (Cond.instanceMethod y).before args s = true) (hsel : (Cond.selects C y y).before args s = true)
    (hcode : (Cond.codeWith y bytes maxL ret hh).before args s = true) (hy : y.cls ≠ "java/lang/invoke/MethodHandle" ∧ y.cls ≠ "java/lang/invoke/VarHandle")
    {W9 : Nat} {Pre : Pt → Array Value → Prop} {Post : Pt → Array Value → Option Value → Pt → Prop} {PostX : Pt → Array Value → Addr → Pt → Prop} (hK : vx_Back l R p e below s args y 3 W9 Pre Post PostX)
    {b : Addr} {cellB : Cell} (hcell : T.heap[b]? = some cellB) (hobj : cellB.vm.isStatics = false) (hcls : s.vm.findClass C = some cellB.cls)
    {g : JFrame} (hg : g.method = m) (hsize : g.locals.size = c.maxLocals) {argsL rest : List Value} (hlen : ∀ sig, parseMethodDescriptor y.desc = some sig → argsL.length = sig.parameters.length)
    (hstack : g.stack = argsL.reverse ++ .ref b :: rest) (hW : 2 * g.monitorRoom + (rest.map fun v => v.category).sum ≤ W9) (hdg : decode c.code g.pc = .ok (.invokevirtual index, 3))
    (hpre : ∀ vm₁, s.WarmedH vm₁ → Pre ⟨T.setVm vm₁, locs, cells, slots⟩ (Value.ref b :: argsL).toArray) :
    (∃ (v : Option Value) (vm₁ : Vm) (B : Pt), s.WarmedH vm₁ ∧ Stand p l e R s m args below meth c B.U B.locs B.cells B.slots ∧ Post ⟨T.setVm vm₁, locs, cells, slots⟩ (Value.ref b :: argsL).toArray v B ∧
      ∀ target, Steps p.tables e below (B.U.setTop { g with pc := g.pc + 3, stack := v.toList ++ rest }) target → Steps p.tables e below (T.setTop g) target) ∨
    (∃ (q : Addr) (vm₁ : Vm) (B : Pt), s.WarmedH vm₁ ∧ Stand p l e R s m args below meth c B.U B.locs B.cells B.slots ∧ PostX ⟨T.setVm vm₁, locs, cells, slots⟩ (Value.ref b :: argsL).toArray q B ∧
      Steps p.tables e below (T.setTop g) ((B.U.setTop { g with stack := rest }).pushFrame (.throwing q))) := by
  obtain ⟨mk, methM, hnamed, hmethM, hstM, habM⟩ := Cond.instanceMethod_spec hinst
  obtain ⟨m8, methM', cM, hn8, hmethM', -, -, -, -, -, -, hsigM⟩ := Cond.codeWith_spec hcode
  cases Option.some.inj (hn8.symm.trans hnamed)
  cases hmethM.symm.trans hmethM'
  obtain ⟨c2, r2, m2, q1, q2, q3, q4, kP, hkP, hkPi⟩ := Cond.selects_spec hsel
  cases hcls.symm.trans q1
  cases (State.methodFound?_of_named hnamed hy).symm.trans q2
  cases hnamed.symm.trans q3
  have hselP : selectMethod e.platform s.vm cellB.cls mk = .method mk := by rw [Launch.admits_selectMethod X.admits]; exact q4
  obtain ⟨vm₁, X₁, hstep₁⟩ := X.invokevirtual hexec hown hlink hnamed hmethM hstM hkP hkPi hy (a := b) (cell := cellB) hcell
    (fun z h => by rw [h] at hobj; cases hobj) hselP hmethM habM hkP hkPi (g := g) hg (argsL := argsL) (rest := rest) (hlen _ hsigM) hstack hdg
  rcases hK m meth c ⟨T.setVm vm₁, locs, cells, slots⟩ { g with stack := rest } (.invokevirtual index) mk (Value.ref b :: argsL).toArray X₁ hg hsize hdg hW (X₁.named hnamed) (hpre vm₁ X₁.warmed) with ⟨v, B, X', hpost, hsteps⟩ | ⟨q, B, X', hpost, hsteps⟩
  · exact Or.inl ⟨v, vm₁, B, X₁.warmed, X', hpost, fun target h => hstep₁ _ fun acts => by rw [doInvoke_state]; exact hsteps.trans h⟩
  · exact Or.inr ⟨q, vm₁, B, X₁.warmed, X', hpost, hstep₁ _ fun acts => by rw [doInvoke_state]; exact hsteps⟩
theorem vx_callSX (X : Stand p l e R s m args below meth c T locs cells slots) (hexec : p.tables.exec = Jvm.exec) {own : String} {index : Nat} {y : MethodName} {bytes : ByteArray} {maxL : Nat} {ret : Option FieldType} {hh : List (Nat × Nat × Nat × Nat)}
    (hown : s.vm.findClass own = some m.cls) (hlink : (Cond.methodLink own index y).before args s = true) (hstat : (Cond.static y).before args s = true) (hinit : (Cond.initialized y.cls).before args s = true)
    (hcode : (Cond.codeWith y bytes maxL ret hh).before args s = true) (hy : y.cls ≠ "java/lang/invoke/MethodHandle" ∧ y.cls ≠ "java/lang/invoke/VarHandle")
    {W9 : Nat} {Pre : Pt → Array Value → Prop} {Post : Pt → Array Value → Option Value → Pt → Prop} {PostX : Pt → Array Value → Addr → Pt → Prop} (hK : vx_Back l R p e below s args y 3 W9 Pre Post PostX)
    {g : JFrame} (hg : g.method = m) (hsize : g.locals.size = c.maxLocals) {argsL rest : List Value} (hlen : ∀ sig, parseMethodDescriptor y.desc = some sig → argsL.length = sig.parameters.length)
    (hstack : g.stack = argsL.reverse ++ rest) (hW : 2 * g.monitorRoom + (rest.map fun v => v.category).sum ≤ W9) (hdg : decode c.code g.pc = .ok (.invokestatic index, 3))
    (hpre : ∀ vm₁, s.WarmedH vm₁ → Pre ⟨T.setVm vm₁, locs, cells, slots⟩ argsL.toArray) :
    (∃ (v : Option Value) (vm₁ : Vm) (B : Pt), s.WarmedH vm₁ ∧ Stand p l e R s m args below meth c B.U B.locs B.cells B.slots ∧ Post ⟨T.setVm vm₁, locs, cells, slots⟩ argsL.toArray v B ∧
      ∀ target, Steps p.tables e below (B.U.setTop { g with pc := g.pc + 3, stack := v.toList ++ rest }) target → Steps p.tables e below (T.setTop g) target) ∨
    (∃ (q : Addr) (vm₁ : Vm) (B : Pt), s.WarmedH vm₁ ∧ Stand p l e R s m args below meth c B.U B.locs B.cells B.slots ∧ PostX ⟨T.setVm vm₁, locs, cells, slots⟩ argsL.toArray q B ∧
      Steps p.tables e below (T.setTop g) ((B.U.setTop { g with stack := rest }).pushFrame (.throwing q))) := by
  obtain ⟨mk, methM, cM, hnamed, hmethM, -, -, -, -, -, -, hsigM⟩ := Cond.codeWith_spec hcode
  have hstatic : methM.isStatic = true := Cond.static_spec hnamed hmethM hstat
  obtain ⟨kP, hkP, -⟩ := className_of_methodNamed hnamed
  have hinitP : kP.init = .initialized := Cond.initialized_spec (findClass_of_methodNamed hnamed) hkP hinit
  obtain ⟨vm₁, X₁, hstep₁⟩ := X.invokestatic hexec hown hlink hnamed hmethM hstatic hkP hinitP hy (g := g) hg (argsL := argsL) (rest := rest) (hlen _ hsigM) hstack hdg
  rcases hK m meth c ⟨T.setVm vm₁, locs, cells, slots⟩ { g with stack := rest } (.invokestatic index) mk argsL.toArray X₁ hg hsize hdg hW (X₁.named hnamed) (hpre vm₁ X₁.warmed) with ⟨v, B, X', hpost, hsteps⟩ | ⟨q, B, X', hpost, hsteps⟩
  · exact Or.inl ⟨v, vm₁, B, X₁.warmed, X', hpost, fun target h => hstep₁ _ fun acts => by rw [doInvoke_state]; exact hsteps.trans h⟩
  · exact Or.inr ⟨q, vm₁, B, X₁.warmed, X', hpost, hstep₁ _ fun acts => by rw [doInvoke_state]; exact hsteps⟩
theorem vx_callVW (X : Stand p l e R s m args below meth c T locs cells slots) (hexec : p.tables.exec = Jvm.exec) {own C : String} {index : Nat} {y : MethodName} {bytes : ByteArray} {maxL : Nat} {ret : Option FieldType} {hh : List (Nat × Nat × Nat × Nat)}
    (hown : s.vm.findClass own = some m.cls) (hlink : (Cond.methodLink own index y).before args s = true) (hinst : (Cond.instanceMethod y).before args s = true) (hsel : (Cond.selects C y y).before args s = true)
    (hcode : (Cond.codeWith y bytes maxL ret hh).before args s = true) (hy : y.cls ≠ "java/lang/invoke/MethodHandle" ∧ y.cls ≠ "java/lang/invoke/VarHandle")
    {W9 : Nat} {Pre : Pt → Array Value → Prop} {Post : Pt → Array Value → Option Value → Pt → Prop} (hK : Back l R p e below s args y 3 W9 Pre Post)
    {b : Addr} {cellB : Cell} (hcell : T.heap[b]? = some cellB) (hobj : cellB.vm.isStatics = false) (hcls : s.vm.findClass C = some cellB.cls)
    {g : JFrame} (hg : g.method = m) (hsize : g.locals.size = c.maxLocals) {argsL rest : List Value} (hlen : ∀ sig, parseMethodDescriptor y.desc = some sig → argsL.length = sig.parameters.length)
    (hstack : g.stack = argsL.reverse ++ .ref b :: rest) (hW : 2 * g.monitorRoom + (rest.map fun v => v.category).sum ≤ W9) (hdg : decode c.code g.pc = .ok (.invokevirtual index, 3))
    (hpre : ∀ vm₁, s.WarmedH vm₁ → Pre ⟨T.setVm vm₁, locs, cells, slots⟩ (Value.ref b :: argsL).toArray) :
    ∃ (v : Option Value) (vm₁ : Vm) (B : Pt), s.WarmedH vm₁ ∧ Stand p l e R s m args below meth c B.U B.locs B.cells B.slots ∧ Post ⟨T.setVm vm₁, locs, cells, slots⟩ (Value.ref b :: argsL).toArray v B ∧
      ∀ target, Steps p.tables e below (B.U.setTop { g with pc := g.pc + 3, stack := v.toList ++ rest }) target → Steps p.tables e below (T.setTop g) target := by
  obtain ⟨mk, methM, hnamed, hmethM, hstM, habM⟩ := Cond.instanceMethod_spec hinst
  obtain ⟨m8, methM', cM, hn8, hmethM', -, -, -, -, -, -, hsigM⟩ := Cond.codeWith_spec hcode
  cases Option.some.inj (hn8.symm.trans hnamed)
  cases hmethM.symm.trans hmethM'
  obtain ⟨c2, r2, m2, q1, q2, q3, q4, kP, hkP, hkPi⟩ := Cond.selects_spec hsel
  cases hcls.symm.trans q1
  cases (State.methodFound?_of_named hnamed hy).symm.trans q2
  cases hnamed.symm.trans q3
  have hselP : selectMethod e.platform s.vm cellB.cls mk = .method mk := by rw [Launch.admits_selectMethod X.admits]; exact q4
  obtain ⟨vm₁, X₁, hstep₁⟩ := X.invokevirtual hexec hown hlink hnamed hmethM hstM hkP hkPi hy (a := b) (cell := cellB) hcell
    (fun z h => by rw [h] at hobj; cases hobj) hselP hmethM habM hkP hkPi (g := g) hg (argsL := argsL) (rest := rest) (hlen _ hsigM) hstack hdg
  obtain ⟨v, B, X', hpost, hsteps⟩ := hK m meth c ⟨T.setVm vm₁, locs, cells, slots⟩ { g with stack := rest } (.invokevirtual index) mk (Value.ref b :: argsL).toArray X₁ hg hsize hdg hW (X₁.named hnamed) (hpre vm₁ X₁.warmed)
  exact ⟨v, vm₁, B, X₁.warmed, X', hpost, fun target h => hstep₁ _ fun acts => by rw [doInvoke_state]; exact hsteps.trans h⟩
abbrev vx_CVW (R : Room) (s : State) (args : Array Value) (own C : String) (index : Nat) (y : MethodName) (bytes : ByteArray) (maxL : Nat) (ret : Option FieldType) (hh : List (Nat × Nat × Nat × Nat)) (ws : List Cond) (rm : Room) (mc ms n : Nat) : Prop :=
  (rm.cells = mc ∧ rm.slots = ms ∧ rm.frames + 1 ≤ R.frames ∧ 8 + (maxL + 11) + rm.locals ≤ R.locals ∧ (∀ w ∈ ws, ∀ (a' : Array Value) (U : State), s.WarmedH U.vm → w.before a' U = true) ∧ Cond.codeWith y bytes maxL ret hh ∈ ws) ∧
  (Cond.codeWith y bytes maxL ret hh).before args s = true ∧ (Cond.initialized y.cls).before args s = true ∧ (y.cls ≠ "java/lang/invoke/MethodHandle" ∧ y.cls ≠ "java/lang/invoke/VarHandle") ∧
  (∀ sig, parseMethodDescriptor y.desc = some sig → n = sig.parameters.length) ∧ (Cond.methodLink own index y).before args s = true ∧ (Cond.instanceMethod y).before args s = true ∧ (Cond.selects C y y).before args s = true
theorem vx_cwVW {own C : String} {index maxL mc ms : Nat} {y : MethodName} {bytes : ByteArray} {ret : Option FieldType} {hh : List (Nat × Nat × Nat × Nat)} {Ts ws ws' : List Cond} {rm : Room} (n : Nat) (ht : ∀ w ∈ Ts, w.before args s = true) (hT : GoodIn Ts (wsV own index C y ws)) (hw : ws = Cond.codeWith y bytes maxL ret hh :: ws') (hrc : rm.cells = mc) (hrs : rm.slots = ms)
    (hd : y.cls = C ∧ y.cls ≠ "java/lang/invoke/MethodHandle" ∧ y.cls ≠ "java/lang/invoke/VarHandle" ∧ (parseMethodDescriptor y.desc).map (fun d => d.parameters.length) = some n) (hR : rm.frames + 1 ≤ R.frames ∧ 8 + (maxL + 11) + rm.locals ≤ R.locals) :
    vx_CVW R s args own C index y bytes maxL ret hh ws rm mc ms n := by
  obtain ⟨hC, hd⟩ := hd
  subst hC
  have ok : ∀ w ∈ wsV own index y.cls y ws, w.before args s = true := fun w h => ht w (hT w h).1
  have hG : GoodIn Ts ws := fun w h => hT w (by unfold wsV; exact List.mem_append_right _ h)
  have hc : Cond.codeWith y bytes maxL ret hh ∈ ws := by rw [hw]; exact List.mem_cons_self
  refine ⟨⟨hrc, hrs, hR.1, hR.2, pay_in ht hG, hc⟩, ht _ (hG _ hc).1, ok _ (by simp [wsV]), ⟨hd.1, hd.2.1⟩, fun sig h => ?_, ok _ (by simp [wsV]), ok _ (by simp [wsV]), ok _ (by simp [wsV])⟩
  have h2 := hd.2.2
  rw [h] at h2
  exact (Option.some.inj h2).symm
theorem vx_runVW {y : MethodName} {bytes cc : ByteArray} {maxL nL mc ms n index : Nat} {ret : Option FieldType} {hh : List (Nat × Nat × Nat × Nat)} {ws : List Cond} {rm : Room} {Pc : Array Value → State → Prop} {Qc : Array Value → State → Outcome → State → Prop} {free : Addr → Prop} {Ts : List Cond} {own C : String} {b : Addr} {As rest : List Value} {g : JFrame}
    (S : CallFix p m c cc nL s args Ts own) (hM : Met l y ws rm Pc Qc mc ms free) (cw : vx_CVW R s args own C index y bytes maxL ret hh ws rm mc ms n) (hp : PreV s H C b Pc As)
    (hg : g.method = m) (hn : As.length = n) (hsize : g.locals.size = nL) (hstack : g.stack = As.reverse ++ .ref b :: rest) (hW : 2 * g.monitorRoom + (rest.map fun v => v.category).sum ≤ 8) (hdg : decode cc g.pc = .ok (.invokevirtual index, 3)) (hf : cells + mc ≤ R.cells ∧ slots + ms ≤ R.slots) :
    va_Run p l e R s m args below meth c H locs cells slots mc ms g rest (Qc (Value.ref b :: As).toArray) free := by
  obtain ⟨⟨hrc, hrs, hfr, hlo, hws, hcw⟩, hcode, hini, hy, hlen, hl, hin, hse⟩ := cw
  have hK : Back l R p e below s args y 3 8 (PreOf R mc ms Pc) (PostOf Qc mc ms free) := va_backW (hh := hh) (bytes := bytes) (maxL := maxL) (ret := ret) hM hp.1 hrc hrs hfr hlo hws hcw (fun a' U hW => word_at hW (Or.inl (by first | rfl | simp [Cond.onTables, Cond.keeps, Cond.steady])) hini)
  obtain ⟨hx, hb, hml, ho, -⟩ := S
  obtain ⟨-, ⟨cellB, hcB, hoB, hclB⟩, hPc⟩ := hp
  intro T hT X
  obtain ⟨v, vm₁, ⟨U', l2, c2, s2⟩, hW₁, X', ⟨g', mk, t, L, e1, e2, hq, h1, hL, h2, h3⟩, st⟩ := vx_callVW X hx (C := C) (hh := hh) (bytes := bytes) (maxL := maxL) (ret := ret) ho hl hin hse hcode hy hK (by rw [hT]; exact hcB) hoB hclB hg (hsize.trans hml.symm) (argsL := As) (rest := rest) (fun sig h => hn.trans (hlen sig h)) hstack hW (by rw [hb]; exact hdg)
    (fun vm₁ hW₁ => ⟨hf.1, hf.2, hPc (T.setVm vm₁) hT hW₁⟩)
  dsimp only [Pt.U, Pt.locs, Pt.cells, Pt.slots] at X' e1 e2 h1 h2 h3 st
  subst h1; subst h2; subst h3
  exact ⟨v, (T.setVm vm₁).calling g' mk (Value.ref b :: As).toArray, t, U', L, hT, X', hL, e1, e2, hq, st⟩
section
variable {y : MethodName} {bytes cc : ByteArray} {maxL nL mc ms n index : Nat} {ret : Option FieldType} {ws : List Cond} {rm : Room} {Pc : Array Value → State → Prop} {Qc : Array Value → State → Outcome → State → Prop} {XC : String → State → State → Prop} {free : Addr → Prop} {Ts : List Cond} {own C : String} {b : Addr} {As rest : List Value} {g : JFrame}
theorem vx_runVX {hh : List (Nat × Nat × Nat × Nat)} (S : CallFix p m c cc nL s args Ts own) (hM : vx_Met l y ws rm Pc Qc XC mc ms free) (cw : vx_CVW R s args own C index y bytes maxL ret hh ws rm mc ms n) (hp : PreV s H C b Pc As)
    (hg : g.method = m) (hn : As.length = n) (hsize : g.locals.size = nL) (hstack : g.stack = As.reverse ++ .ref b :: rest) (hW : 2 * g.monitorRoom + (rest.map fun v => v.category).sum ≤ 8) (hdg : decode cc g.pc = .ok (.invokevirtual index, 3)) (hf : cells + mc ≤ R.cells ∧ slots + ms ≤ R.slots) :
    vx_Run p l e R s m args below meth c H locs cells slots mc ms g rest (Qc (Value.ref b :: As).toArray) XC free := by
  obtain ⟨⟨hrc, hrs, hfr, hlo, hws, hcw⟩, hcode, hini, hy, hlen, hl, hin, hse⟩ := cw
  have hK : vx_Back l R p e below s args y 3 8 (PreOf R mc ms Pc) (PostOf Qc mc ms free) (vx_Post XC mc ms free) := vx_backW (hh := hh) (bytes := bytes) (maxL := maxL) (ret := ret) hM hp.1 hrc hrs hfr hlo hws hcw (fun a' U hW => word_at hW (Or.inl (by first | rfl | simp [Cond.onTables, Cond.keeps, Cond.steady])) hini)
  obtain ⟨hx, hb, hml, ho, -⟩ := S
  obtain ⟨-, ⟨cellB, hcB, hoB, hclB⟩, hPc⟩ := hp
  intro T hT X
  rcases vx_callVX X hx (C := C) (hh := hh) (bytes := bytes) (maxL := maxL) (ret := ret) ho hl hin hse hcode hy hK (by rw [hT]; exact hcB) hoB hclB hg (hsize.trans hml.symm) (argsL := As) (rest := rest) (fun sig h => hn.trans (hlen sig h)) hstack hW (by rw [hb]; exact hdg)
    (fun vm₁ hW₁ => ⟨hf.1, hf.2, hPc (T.setVm vm₁) hT hW₁⟩) with ⟨v, vm₁, ⟨U', l2, c2, s2⟩, hW₁, X', ⟨g', mk, t, L, e1, e2, hq, h1, hL, h2, h3⟩, st⟩ | ⟨q, vm₁, ⟨U', l2, c2, s2⟩, hW₁, X', ⟨g', mk, t, L, E, ce, e1, e2, hq, hce, hcv, hcl, h1, hL, h2, h3⟩, st⟩
  · dsimp only [Pt.U, Pt.locs, Pt.cells, Pt.slots] at X' e1 e2 h1 h2 h3 st
    subst h1; subst h2; subst h3
    exact Or.inl ⟨v, (T.setVm vm₁).calling g' mk (Value.ref b :: As).toArray, t, U', L, hT, X', hL, e1, e2, hq, st⟩
  · dsimp only [Pt.U, Pt.locs, Pt.cells, Pt.slots] at X' e1 e2 h1 h2 h3 st hcl
    subst h1; subst h2; subst h3
    exact Or.inr ⟨q, (T.setVm vm₁).calling g' mk (Value.ref b :: As).toArray, t, U', L, E, ce, hT, X', hL, e1, e2, hq, hce, hcv, vx_cls hW₁ hcl, st⟩
theorem vx_runSX {hh : List (Nat × Nat × Nat × Nat)} (S : CallFix p m c cc nL s args Ts own) (hM : vx_Met l y ws rm Pc Qc XC mc ms free) (cw : vx_CSW R s args own index y bytes maxL ret hh ws rm mc ms n) (hp : PreS s H Pc As)
    (hg : g.method = m) (hn : As.length = n) (hsize : g.locals.size = nL) (hstack : g.stack = As.reverse ++ rest) (hW : 2 * g.monitorRoom + (rest.map fun v => v.category).sum ≤ 8) (hdg : decode cc g.pc = .ok (.invokestatic index, 3)) (hf : cells + mc ≤ R.cells ∧ slots + ms ≤ R.slots) :
    vx_Run p l e R s m args below meth c H locs cells slots mc ms g rest (Qc As.toArray) XC free := by
  obtain ⟨⟨hrc, hrs, hfr, hlo, hws, hcw⟩, hcode, hini, hy, hlen, hl, hstt⟩ := cw
  have hK : vx_Back l R p e below s args y 3 8 (PreOf R mc ms Pc) (PostOf Qc mc ms free) (vx_Post XC mc ms free) := vx_backW (hh := hh) (bytes := bytes) (maxL := maxL) (ret := ret) hM hp.1 hrc hrs hfr hlo hws hcw (fun a' U hW => word_at hW (Or.inl (by first | rfl | simp [Cond.onTables, Cond.keeps, Cond.steady])) hini)
  obtain ⟨hx, hb, hml, ho, -⟩ := S
  intro T hT X
  rcases vx_callSX X hx (hh := hh) (bytes := bytes) (maxL := maxL) (ret := ret) ho hl hstt hini hcode hy hK hg (hsize.trans hml.symm) (argsL := As) (rest := rest) (fun sig h => hn.trans (hlen sig h)) hstack hW (by rw [hb]; exact hdg)
    (fun vm₁ hW₁ => ⟨hf.1, hf.2, hp.2 (T.setVm vm₁) hT hW₁⟩) with ⟨v, vm₁, ⟨U', l2, c2, s2⟩, hW₁, X', ⟨g', mk, t, L, e1, e2, hq, h1, hL, h2, h3⟩, st⟩ | ⟨q, vm₁, ⟨U', l2, c2, s2⟩, hW₁, X', ⟨g', mk, t, L, E, ce, e1, e2, hq, hce, hcv, hcl, h1, hL, h2, h3⟩, st⟩
  · dsimp only [Pt.U, Pt.locs, Pt.cells, Pt.slots] at X' e1 e2 h1 h2 h3 st
    subst h1; subst h2; subst h3
    exact Or.inl ⟨v, (T.setVm vm₁).calling g' mk As.toArray, t, U', L, hT, X', hL, e1, e2, hq, st⟩
  · dsimp only [Pt.U, Pt.locs, Pt.cells, Pt.slots] at X' e1 e2 h1 h2 h3 st hcl
    subst h1; subst h2; subst h3
    exact Or.inr ⟨q, (T.setVm vm₁).calling g' mk As.toArray, t, U', L, E, ce, hT, X', hL, e1, e2, hq, hce, hcv, vx_cls hW₁ hcl, st⟩
end
end VXH
theorem vx_ofWH {l : Launch} {y : MethodName} {ws ws' : List Cond} {rm : Room} {Pc : Array Value → State → Prop} {Qc : Array Value → State → Outcome → State → Prop} {XC : String → State → State → Prop} {mc ms : Nat} {free : Addr → Prop} {cc : ByteArray} {maxL : Nat} {ret : Option FieldType} {hh : List (Nat × Nat × Nat × Nat)}
    (hy : plainName y.cls = true) (hw : ws = Cond.codeWith y cc maxL ret hh :: ws')
    (body : ∀ p e s m args below meth c s₁, BodyLoose p l y (headSpec ws rm) cc maxL ret e s m args below meth c s₁ → c.maxLocals = maxL → Pc args s →
      W p l e (headSpec ws rm).room s m args below meth c s.heap [] 0 0 (vx_MQ below Qc XC args s mc ms free) (entryFrame m args maxL)) : vx_Met l y ws rm Pc Qc XC mc ms free := by
  refine MetFree.of_bodyS (code := cc) (maxLocals := maxL) (ret := ret) hy ?_ ?_
  · intro args s m h hn
    obtain ⟨m9, meth, c, hn9, h1, h2, h3, h4, -, h5, h6, -⟩ := Cond.codeWith_spec (atoms_spec (ws := ws) h _ (by rw [hw]; exact List.mem_cons_self))
    cases hn.symm.trans hn9
    exact ⟨meth, c, h1, h2, h3, h4, h5, h6⟩
  · intro p e s m args below meth c s₁ B hml hP _
    have hh0 : s₁.heap = s.heap := by rw [B.state]; rfl
    obtain ⟨t, a1, o, b1, b2, b3⟩ := body p e s m args below meth c s₁ B hml hP s₁ hh0 (Stand.of_body B)
    exact ⟨t, o, a1, b1, b2, b3⟩
/-! ===== END ===== -/
end
section
/-! ===== BEGIN printed: names, fields, word lists, decode rows ===== -/
def RX0 : String := "TwinLinks$Groups"
def TX0 : u_T := fun k => match k with
  | 0 => ("TwinLinks$Groups", "told", "LTwinLinks$Told;", true)
  | 1 => ("TwinLinks$Groups", "leaders", "[I", true)
  | 2 => ("TwinLinks$Groups", "firsts", "[I", true)
  | 3 => ("TwinLinks$Groups", "seconds", "[I", true)
  | _ => ("TwinLinks$Groups", "length", "I", false)
def tyX0 : Nat → FieldType := fun k => match k with
  | 0 => .object "TwinLinks$Told"
  | 1 => .array .int
  | 2 => .array .int
  | 3 => .array .int
  | _ => .int
abbrev wsX00 : List Cond := u_ws RX0 TX0 5
theorem nmX0 : ∀ a, a < 5 → ∀ b, b < 5 → a ≠ b → (TX0 a).2.1 ≠ (TX0 b).2.1 := by decide +kernel
theorem tyX0_ok : ∀ k, k < 5 → parseFieldDescriptor (TX0 k).2.2.1 = some (tyX0 k) := by decide +kernel
abbrev cX0_init : ByteArray := prog_2_method_1_code
def yX0_init : MethodName := ⟨RX0, "<init>", "(LTwinLinks$Told;)V"⟩
abbrev cX0_match : ByteArray := prog_2_method_2_code
def yX0_match : MethodName := ⟨RX0, "match", "(LTwinLinks$House;II)Z"⟩
abbrev cX0_matchPair : ByteArray := prog_2_method_3_code
def yX0_matchPair : MethodName := ⟨RX0, "matchPair", "(LTwinLinks$House;II)Z"⟩
abbrev cX0_matchRows : ByteArray := prog_2_method_4_code
def yX0_matchRows : MethodName := ⟨RX0, "matchRows", "(LTwinLinks$Rows;III)Z"⟩
abbrev cX0_demand : ByteArray := prog_2_method_5_code
def yX0_demand : MethodName := ⟨RX0, "demand", "(II)V"⟩
def RX1 : String := "TwinLinks$House"
def TX1 : u_T := fun k => match k with
  | 0 => ("TwinLinks$House", "numbers", "[I", true)
  | 1 => ("TwinLinks$House", "kinds", "[I", true)
  | 2 => ("TwinLinks$House", "has", "LTwinLinks$Rows;", true)
  | 3 => ("TwinLinks$House", "had", "LTwinLinks$Rows;", true)
  | 4 => ("TwinLinks$House", "objects", "I", false)
  | _ => ("TwinLinks$House", "pairs", "I", false)
def tyX1 : Nat → FieldType := fun k => match k with
  | 0 => .array .int
  | 1 => .array .int
  | 2 => .object "TwinLinks$Rows"
  | 3 => .object "TwinLinks$Rows"
  | 4 => .int
  | _ => .int
abbrev wsX10 : List Cond := u_ws RX1 TX1 6
theorem nmX1 : ∀ a, a < 6 → ∀ b, b < 6 → a ≠ b → (TX1 a).2.1 ≠ (TX1 b).2.1 := by decide +kernel
theorem tyX1_ok : ∀ k, k < 6 → parseFieldDescriptor (TX1 k).2.2.1 = some (tyX1 k) := by decide +kernel
abbrev cX1_init : ByteArray := prog_3_method_1_code
def yX1_init : MethodName := ⟨RX1, "<init>", "()V"⟩
abbrev cX1_has : ByteArray := prog_3_method_2_code
def yX1_has : MethodName := ⟨RX1, "has", "()LTwinLinks$Rows;"⟩
abbrev cX1_had : ByteArray := prog_3_method_3_code
def yX1_had : MethodName := ⟨RX1, "had", "()LTwinLinks$Rows;"⟩
abbrev cX1_objects : ByteArray := prog_3_method_4_code
def yX1_objects : MethodName := ⟨RX1, "objects", "()I"⟩
abbrev cX1_pairs : ByteArray := prog_3_method_5_code
def yX1_pairs : MethodName := ⟨RX1, "pairs", "()I"⟩
abbrev cX1_slotOf : ByteArray := prog_3_method_6_code
def yX1_slotOf : MethodName := ⟨RX1, "slotOf", "(I)I"⟩
abbrev cX1_numberOf : ByteArray := prog_3_method_7_code
def yX1_numberOf : MethodName := ⟨RX1, "numberOf", "(I)I"⟩
abbrev cX1_kindOf : ByteArray := prog_3_method_8_code
def yX1_kindOf : MethodName := ⟨RX1, "kindOf", "(I)I"⟩
abbrev cX1_admit : ByteArray := prog_3_method_9_code
def yX1_admit : MethodName := ⟨RX1, "admit", "(II)I"⟩
abbrev cX1_remove : ByteArray := prog_3_method_10_code
def yX1_remove : MethodName := ⟨RX1, "remove", "(I)V"⟩
abbrev cX1_isJoined : ByteArray := prog_3_method_11_code
def yX1_isJoined : MethodName := ⟨RX1, "isJoined", "(III)Z"⟩
abbrev cX1_join : ByteArray := prog_3_method_12_code
def yX1_join : MethodName := ⟨RX1, "join", "(IIII)V"⟩
abbrev cX1_joinHas : ByteArray := prog_3_method_13_code
def yX1_joinHas : MethodName := ⟨RX1, "joinHas", "(III)V"⟩
abbrev cX1_joinHad : ByteArray := prog_3_method_14_code
def yX1_joinHad : MethodName := ⟨RX1, "joinHad", "(III)V"⟩
abbrev cX1_separate : ByteArray := prog_3_method_15_code
def yX1_separate : MethodName := ⟨RX1, "separate", "(III)Z"⟩
abbrev cX1_takeFrom : ByteArray := prog_3_method_16_code
def yX1_takeFrom : MethodName := ⟨RX1, "takeFrom", "(LTwinLinks$House;)V"⟩
abbrev cX1_slotBearing : ByteArray := prog_3_method_17_code
def yX1_slotBearing : MethodName := ⟨RX1, "slotBearing", "(I)I"⟩
abbrev cX1_separateAll : ByteArray := prog_3_method_18_code
def yX1_separateAll : MethodName := ⟨RX1, "separateAll", "(II)V"⟩
def RX2 : String := "TwinLinks$Leaving"
def TX2 : u_T := fun k => match k with
  | 0 => ("TwinLinks$Leaving", "told", "LTwinLinks$Told;", true)
  | 1 => ("TwinLinks$Leaving", "walk", "LTwinLinks$Walk;", true)
  | 2 => ("TwinLinks$Leaving", "gone", "LTwinLinks$Slots;", true)
  | 3 => ("TwinLinks$Leaving", "parts", "LTwinLinks$Slots;", true)
  | _ => ("TwinLinks$Leaving", "owners", "LTwinLinks$Slots;", true)
def tyX2 : Nat → FieldType := fun k => match k with
  | 0 => .object "TwinLinks$Told"
  | 1 => .object "TwinLinks$Walk"
  | 2 => .object "TwinLinks$Slots"
  | 3 => .object "TwinLinks$Slots"
  | _ => .object "TwinLinks$Slots"
abbrev wsX20 : List Cond := u_ws RX2 TX2 5
theorem nmX2 : ∀ a, a < 5 → ∀ b, b < 5 → a ≠ b → (TX2 a).2.1 ≠ (TX2 b).2.1 := by decide +kernel
theorem tyX2_ok : ∀ k, k < 5 → parseFieldDescriptor (TX2 k).2.2.1 = some (tyX2 k) := by decide +kernel
abbrev cX2_init : ByteArray := prog_4_method_1_code
def yX2_init : MethodName := ⟨RX2, "<init>", "(LTwinLinks$Told;LTwinLinks$Walk;)V"⟩
abbrev cX2_gather : ByteArray := prog_4_method_2_code
def yX2_gather : MethodName := ⟨RX2, "gather", "(LTwinLinks$House;I)V"⟩
abbrev cX2_firstBarred : ByteArray := prog_4_method_3_code
def yX2_firstBarred : MethodName := ⟨RX2, "firstBarred", "(LTwinLinks$House;I)I"⟩
abbrev cX2_leastBar : ByteArray := prog_4_method_4_code
def yX2_leastBar : MethodName := ⟨RX2, "leastBar", "(LTwinLinks$House;I)I"⟩
abbrev cX2_removeAll : ByteArray := prog_4_method_5_code
def yX2_removeAll : MethodName := ⟨RX2, "removeAll", "(LTwinLinks$House;)I"⟩
abbrev cX2_addThoseWithoutOwner : ByteArray := prog_4_method_6_code
def yX2_addThoseWithoutOwner : MethodName := ⟨RX2, "addThoseWithoutOwner", "(LTwinLinks$House;)V"⟩
abbrev cX2_areOwnersGone : ByteArray := prog_4_method_7_code
def yX2_areOwnersGone : MethodName := ⟨RX2, "areOwnersGone", "()Z"⟩
abbrev cX2_isBefore : ByteArray := prog_4_method_8_code
def yX2_isBefore : MethodName := ⟨RX2, "isBefore", "(LTwinLinks$House;II)Z"⟩
def RX3 : String := "TwinLinks$Rows"
def TX3 : u_T := fun k => match k with
  | 0 => ("TwinLinks$Rows", "words", "[J", true)
  | _ => ("TwinLinks$Rows", "lengths", "[I", true)
def tyX3 : Nat → FieldType := fun k => match k with
  | 0 => .array .long
  | _ => .array .int
abbrev wsX30 : List Cond := u_ws RX3 TX3 2
theorem nmX3 : ∀ a, a < 2 → ∀ b, b < 2 → a ≠ b → (TX3 a).2.1 ≠ (TX3 b).2.1 := by decide +kernel
theorem tyX3_ok : ∀ k, k < 2 → parseFieldDescriptor (TX3 k).2.2.1 = some (tyX3 k) := by decide +kernel
abbrev cX3_init : ByteArray := prog_5_method_1_code
def yX3_init : MethodName := ⟨RX3, "<init>", "()V"⟩
abbrev cX3_lengthOf : ByteArray := prog_5_method_2_code
def yX3_lengthOf : MethodName := ⟨RX3, "lengthOf", "(II)I"⟩
abbrev cX3_get : ByteArray := prog_5_method_3_code
def yX3_get : MethodName := ⟨RX3, "get", "(III)I"⟩
abbrev cX3_holds : ByteArray := prog_5_method_4_code
def yX3_holds : MethodName := ⟨RX3, "holds", "(III)Z"⟩
abbrev cX3_addTo : ByteArray := prog_5_method_5_code
def yX3_addTo : MethodName := ⟨RX3, "addTo", "(LTwinLinks$Slots;II)V"⟩
abbrev cX3_insert : ByteArray := prog_5_method_6_code
def yX3_insert : MethodName := ⟨RX3, "insert", "(IIII)V"⟩
abbrev cX3_append : ByteArray := prog_5_method_7_code
def yX3_append : MethodName := ⟨RX3, "append", "(III)V"⟩
abbrev cX3_remove : ByteArray := prog_5_method_8_code
def yX3_remove : MethodName := ⟨RX3, "remove", "(III)Z"⟩
abbrev cX3_takeFrom : ByteArray := prog_5_method_9_code
def yX3_takeFrom : MethodName := ⟨RX3, "takeFrom", "(LTwinLinks$Rows;)V"⟩
abbrev cX3_isRow : ByteArray := prog_5_method_10_code
def yX3_isRow : MethodName := ⟨RX3, "isRow", "(II)Z"⟩
abbrev cX3_rowOf : ByteArray := prog_5_method_11_code
def yX3_rowOf : MethodName := ⟨RX3, "rowOf", "(II)I"⟩
abbrev cX3_read : ByteArray := prog_5_method_12_code
def yX3_read : MethodName := ⟨RX3, "read", "(II)I"⟩
abbrev cX3_write : ByteArray := prog_5_method_13_code
def yX3_write : MethodName := ⟨RX3, "write", "(III)V"⟩
def RX4 : String := "TwinLinks$Slots"
def TX4 : u_T := fun k => match k with
  | 0 => ("TwinLinks$Slots", "inside", "[Z", true)
  | 1 => ("TwinLinks$Slots", "list", "[I", true)
  | _ => ("TwinLinks$Slots", "length", "I", false)
def tyX4 : Nat → FieldType := fun k => match k with
  | 0 => .array .boolean
  | 1 => .array .int
  | _ => .int
abbrev wsX40 : List Cond := u_ws RX4 TX4 3
theorem nmX4 : ∀ a, a < 3 → ∀ b, b < 3 → a ≠ b → (TX4 a).2.1 ≠ (TX4 b).2.1 := by decide +kernel
theorem tyX4_ok : ∀ k, k < 3 → parseFieldDescriptor (TX4 k).2.2.1 = some (tyX4 k) := by decide +kernel
abbrev cX4_init : ByteArray := prog_6_method_1_code
def yX4_init : MethodName := ⟨RX4, "<init>", "()V"⟩
abbrev cX4_isSlot : ByteArray := prog_6_method_2_code
def yX4_isSlot : MethodName := ⟨RX4, "isSlot", "(I)Z"⟩
abbrev cX4_length : ByteArray := prog_6_method_3_code
def yX4_length : MethodName := ⟨RX4, "length", "()I"⟩
abbrev cX4_get : ByteArray := prog_6_method_4_code
def yX4_get : MethodName := ⟨RX4, "get", "(I)I"⟩
abbrev cX4_holds : ByteArray := prog_6_method_5_code
def yX4_holds : MethodName := ⟨RX4, "holds", "(I)Z"⟩
abbrev cX4_add : ByteArray := prog_6_method_6_code
def yX4_add : MethodName := ⟨RX4, "add", "(I)V"⟩
abbrev cX4_clear : ByteArray := prog_6_method_7_code
def yX4_clear : MethodName := ⟨RX4, "clear", "()V"⟩
def RX5 : String := "TwinLinks$Told"
def TX5 : u_T := fun k => match k with
  | 0 => ("TwinLinks$Told", "from", "[I", true)
  | 1 => ("TwinLinks$Told", "to", "[I", true)
  | 2 => ("TwinLinks$Told", "forms", "[I", true)
  | 3 => ("TwinLinks$Told", "rules", "[I", true)
  | _ => ("TwinLinks$Told", "length", "I", false)
def tyX5 : Nat → FieldType := fun k => match k with
  | 0 => .array .int
  | 1 => .array .int
  | 2 => .array .int
  | 3 => .array .int
  | _ => .int
abbrev wsX50 : List Cond := u_ws RX5 TX5 5
theorem nmX5 : ∀ a, a < 5 → ∀ b, b < 5 → a ≠ b → (TX5 a).2.1 ≠ (TX5 b).2.1 := by decide +kernel
theorem tyX5_ok : ∀ k, k < 5 → parseFieldDescriptor (TX5 k).2.2.1 = some (tyX5 k) := by decide +kernel
abbrev cX5_init : ByteArray := prog_7_method_1_code
def yX5_init : MethodName := ⟨RX5, "<init>", "()V"⟩
abbrev cX5_howMany : ByteArray := prog_7_method_2_code
def yX5_howMany : MethodName := ⟨RX5, "howMany", "()I"⟩
abbrev cX5_knows : ByteArray := prog_7_method_3_code
def yX5_knows : MethodName := ⟨RX5, "knows", "(I)Z"⟩
abbrev cX5_tell : ByteArray := prog_7_method_4_code
def yX5_tell : MethodName := ⟨RX5, "tell", "(IIII)I"⟩
abbrev cX5_fromKind : ByteArray := prog_7_method_5_code
def yX5_fromKind : MethodName := ⟨RX5, "fromKind", "(I)I"⟩
abbrev cX5_toKind : ByteArray := prog_7_method_6_code
def yX5_toKind : MethodName := ⟨RX5, "toKind", "(I)I"⟩
abbrev cX5_hasForm : ByteArray := prog_7_method_7_code
def yX5_hasForm : MethodName := ⟨RX5, "hasForm", "(II)Z"⟩
abbrev cX5_hasRule : ByteArray := prog_7_method_8_code
def yX5_hasRule : MethodName := ⟨RX5, "hasRule", "(II)Z"⟩
def RX6 : String := "TwinLinks$Trail"
def TX6 : u_T := fun k => match k with
  | 0 => ("TwinLinks$Trail", "numbers", "[I", true)
  | _ => ("TwinLinks$Trail", "length", "I", false)
def tyX6 : Nat → FieldType := fun k => match k with
  | 0 => .array .int
  | _ => .int
abbrev wsX60 : List Cond := u_ws RX6 TX6 2
theorem nmX6 : ∀ a, a < 2 → ∀ b, b < 2 → a ≠ b → (TX6 a).2.1 ≠ (TX6 b).2.1 := by decide +kernel
theorem tyX6_ok : ∀ k, k < 2 → parseFieldDescriptor (TX6 k).2.2.1 = some (tyX6 k) := by decide +kernel
abbrev cX6_init : ByteArray := prog_8_method_1_code
def yX6_init : MethodName := ⟨RX6, "<init>", "()V"⟩
abbrev cX6_length : ByteArray := prog_8_method_2_code
def yX6_length : MethodName := ⟨RX6, "length", "()I"⟩
abbrev cX6_get : ByteArray := prog_8_method_3_code
def yX6_get : MethodName := ⟨RX6, "get", "(I)I"⟩
abbrev cX6_clear : ByteArray := prog_8_method_4_code
def yX6_clear : MethodName := ⟨RX6, "clear", "()V"⟩
abbrev cX6_add : ByteArray := prog_8_method_5_code
def yX6_add : MethodName := ⟨RX6, "add", "(I)V"⟩
def RX7 : String := "TwinLinks$Twins"
def TX7 : u_T := fun k => match k with
  | 0 => ("TwinLinks$Twins", "told", "LTwinLinks$Told;", true)
  | 1 => ("TwinLinks$Twins", "walk", "LTwinLinks$Walk;", true)
  | 2 => ("TwinLinks$Twins", "old", "LTwinLinks$Slots;", true)
  | _ => ("TwinLinks$Twins", "twins", "[I", true)
def tyX7 : Nat → FieldType := fun k => match k with
  | 0 => .object "TwinLinks$Told"
  | 1 => .object "TwinLinks$Walk"
  | 2 => .object "TwinLinks$Slots"
  | _ => .array .int
abbrev wsX70 : List Cond := u_ws RX7 TX7 4
theorem nmX7 : ∀ a, a < 4 → ∀ b, b < 4 → a ≠ b → (TX7 a).2.1 ≠ (TX7 b).2.1 := by decide +kernel
theorem tyX7_ok : ∀ k, k < 4 → parseFieldDescriptor (TX7 k).2.2.1 = some (tyX7 k) := by decide +kernel
abbrev cX7_init : ByteArray := prog_9_method_1_code
def yX7_init : MethodName := ⟨RX7, "<init>", "(LTwinLinks$Told;LTwinLinks$Walk;)V"⟩
abbrev cX7_gather : ByteArray := prog_9_method_2_code
def yX7_gather : MethodName := ⟨RX7, "gather", "(LTwinLinks$House;I)V"⟩
abbrev cX7_fit : ByteArray := prog_9_method_3_code
def yX7_fit : MethodName := ⟨RX7, "fit", "(LTwinLinks$House;)Z"⟩
abbrev cX7_build : ByteArray := prog_9_method_4_code
def yX7_build : MethodName := ⟨RX7, "build", "(LTwinLinks$House;I)I"⟩
abbrev cX7_twinOf : ByteArray := prog_9_method_5_code
def yX7_twinOf : MethodName := ⟨RX7, "twinOf", "(I)I"⟩
abbrev cX7_leastMissing : ByteArray := prog_9_method_6_code
def yX7_leastMissing : MethodName := ⟨RX7, "leastMissing", "(LTwinLinks$House;LTwinLinks$Slots;)I"⟩
abbrev cX7_keepsOutsiders : ByteArray := prog_9_method_7_code
def yX7_keepsOutsiders : MethodName := ⟨RX7, "keepsOutsiders", "(I)Z"⟩
abbrev cX7_howManyOldHave : ByteArray := prog_9_method_8_code
def yX7_howManyOldHave : MethodName := ⟨RX7, "howManyOldHave", "(LTwinLinks$House;II)I"⟩
abbrev cX7_standIn : ByteArray := prog_9_method_9_code
def yX7_standIn : MethodName := ⟨RX7, "standIn", "(II)I"⟩
abbrev cX7_copyHas : ByteArray := prog_9_method_10_code
def yX7_copyHas : MethodName := ⟨RX7, "copyHas", "(LTwinLinks$House;II)V"⟩
abbrev cX7_copyHad : ByteArray := prog_9_method_11_code
def yX7_copyHad : MethodName := ⟨RX7, "copyHad", "(LTwinLinks$House;II)V"⟩
def RX8 : String := "TwinLinks$Walk"
def TX8 : u_T := fun k => match k with
  | 0 => ("TwinLinks$Walk", "told", "LTwinLinks$Told;", true)
  | 1 => ("TwinLinks$Walk", "steps", "[I", true)
  | 2 => ("TwinLinks$Walk", "reached", "LTwinLinks$Slots;", false)
  | _ => ("TwinLinks$Walk", "spare", "LTwinLinks$Slots;", false)
def tyX8 : Nat → FieldType := fun k => match k with
  | 0 => .object "TwinLinks$Told"
  | 1 => .array .int
  | 2 => .object "TwinLinks$Slots"
  | _ => .object "TwinLinks$Slots"
abbrev wsX80 : List Cond := u_ws RX8 TX8 4
theorem nmX8 : ∀ a, a < 4 → ∀ b, b < 4 → a ≠ b → (TX8 a).2.1 ≠ (TX8 b).2.1 := by decide +kernel
theorem tyX8_ok : ∀ k, k < 4 → parseFieldDescriptor (TX8 k).2.2.1 = some (tyX8 k) := by decide +kernel
abbrev cX8_init : ByteArray := prog_10_method_1_code
def yX8_init : MethodName := ⟨RX8, "<init>", "(LTwinLinks$Told;)V"⟩
abbrev cX8_addOwning : ByteArray := prog_10_method_2_code
def yX8_addOwning : MethodName := ⟨RX8, "addOwning", "(LTwinLinks$Rows;ILTwinLinks$Slots;)V"⟩
abbrev cX8_howManyOwning : ByteArray := prog_10_method_3_code
def yX8_howManyOwning : MethodName := ⟨RX8, "howManyOwning", "(LTwinLinks$Rows;I)I"⟩
abbrev cX8_howManyNear : ByteArray := prog_10_method_4_code
def yX8_howManyNear : MethodName := ⟨RX8, "howManyNear", "(LTwinLinks$House;I)I"⟩
abbrev cX8_howManyUnder : ByteArray := prog_10_method_5_code
def yX8_howManyUnder : MethodName := ⟨RX8, "howManyUnder", "(LTwinLinks$House;I)I"⟩
abbrev cX8_howDeep : ByteArray := prog_10_method_6_code
def yX8_howDeep : MethodName := ⟨RX8, "howDeep", "(LTwinLinks$House;I)I"⟩
abbrev cX8_spread : ByteArray := prog_10_method_7_code
def yX8_spread : MethodName := ⟨RX8, "spread", "(LTwinLinks$Rows;I)LTwinLinks$Slots;"⟩
abbrev cX8_stepsTo : ByteArray := prog_10_method_8_code
def yX8_stepsTo : MethodName := ⟨RX8, "stepsTo", "(I)I"⟩
abbrev cX8_findWay : ByteArray := prog_10_method_9_code
def yX8_findWay : MethodName := ⟨RX8, "findWay", "(LTwinLinks$House;IILTwinLinks$Trail;)Z"⟩
abbrev cX8_leastStep : ByteArray := prog_10_method_10_code
def yX8_leastStep : MethodName := ⟨RX8, "leastStep", "(LTwinLinks$House;II)I"⟩
abbrev cX8_noteSteps : ByteArray := prog_10_method_11_code
def yX8_noteSteps : MethodName := ⟨RX8, "noteSteps", "(II)V"⟩
def RX9 : String := "TwinLinks"
def TX9 : u_T := fun k => match k with
  | 0 => ("TwinLinks", "told", "LTwinLinks$Told;", true)
  | 1 => ("TwinLinks", "trail", "LTwinLinks$Trail;", true)
  | 2 => ("TwinLinks", "walk", "LTwinLinks$Walk;", true)
  | 3 => ("TwinLinks", "leaving", "LTwinLinks$Leaving;", true)
  | 4 => ("TwinLinks", "twins", "LTwinLinks$Twins;", true)
  | 5 => ("TwinLinks", "groups", "LTwinLinks$Groups;", true)
  | 6 => ("TwinLinks", "saved", "[LTwinLinks$House;", true)
  | 7 => ("TwinLinks", "house", "LTwinLinks$House;", false)
  | 8 => ("TwinLinks", "given", "I", false)
  | _ => ("TwinLinks", "levels", "I", false)
def tyX9 : Nat → FieldType := fun k => match k with
  | 0 => .object "TwinLinks$Told"
  | 1 => .object "TwinLinks$Trail"
  | 2 => .object "TwinLinks$Walk"
  | 3 => .object "TwinLinks$Leaving"
  | 4 => .object "TwinLinks$Twins"
  | 5 => .object "TwinLinks$Groups"
  | 6 => .array (.object "TwinLinks$House")
  | 7 => .object "TwinLinks$House"
  | 8 => .int
  | _ => .int
abbrev wsX90 : List Cond := u_ws RX9 TX9 10
theorem nmX9 : ∀ a, a < 10 → ∀ b, b < 10 → a ≠ b → (TX9 a).2.1 ≠ (TX9 b).2.1 := by decide +kernel
theorem tyX9_ok : ∀ k, k < 10 → parseFieldDescriptor (TX9 k).2.2.1 = some (tyX9 k) := by decide +kernel
abbrev cX9_init : ByteArray := prog_1_method_1_code
def yX9_init : MethodName := ⟨RX9, "<init>", "()V"⟩
abbrev cX9_link : ByteArray := prog_1_method_2_code
def yX9_link : MethodName := ⟨RX9, "link", "(IIII)I"⟩
abbrev cX9_make : ByteArray := prog_1_method_3_code
def yX9_make : MethodName := ⟨RX9, "make", "(I)I"⟩
abbrev cX9_set : ByteArray := prog_1_method_4_code
def yX9_set : MethodName := ⟨RX9, "set", "(IIII)I"⟩
abbrev cX9_cut : ByteArray := prog_1_method_5_code
def yX9_cut : MethodName := ⟨RX9, "cut", "(III)I"⟩
abbrev cX9_drop : ByteArray := prog_1_method_6_code
def yX9_drop : MethodName := ⟨RX9, "drop", "(I)I"⟩
abbrev cX9_copy : ByteArray := prog_1_method_7_code
def yX9_copy : MethodName := ⟨RX9, "copy", "(I)I"⟩
abbrev cX9_alike : ByteArray := prog_1_method_8_code
def yX9_alike : MethodName := ⟨RX9, "alike", "(II)Z"⟩
abbrev cX9_at : ByteArray := prog_1_method_9_code
def yX9_at : MethodName := ⟨RX9, "at", "(III)I"⟩
abbrev cX9_back : ByteArray := prog_1_method_10_code
def yX9_back : MethodName := ⟨RX9, "back", "(III)I"⟩
abbrev cX9_ask : ByteArray := prog_1_method_11_code
def yX9_ask : MethodName := ⟨RX9, "ask", "(II)I"⟩
abbrev cX9_size : ByteArray := prog_1_method_12_code
def yX9_size : MethodName := ⟨RX9, "size", "(III)I"⟩
abbrev cX9_way : ByteArray := prog_1_method_13_code
def yX9_way : MethodName := ⟨RX9, "way", "(II)I"⟩
abbrev cX9_path : ByteArray := prog_1_method_14_code
def yX9_path : MethodName := ⟨RX9, "path", "(I)I"⟩
abbrev cX9_begin : ByteArray := prog_1_method_15_code
def yX9_begin : MethodName := ⟨RX9, "begin", "()I"⟩
abbrev cX9_end : ByteArray := prog_1_method_16_code
def yX9_end : MethodName := ⟨RX9, "end", "(Z)I"⟩
abbrev cX9_count : ByteArray := prog_1_method_17_code
def yX9_count : MethodName := ⟨RX9, "count", "(I)I"⟩
abbrev cX9_needBelow : ByteArray := prog_1_method_18_code
def yX9_needBelow : MethodName := ⟨RX9, "needBelow", "(II)V"⟩
abbrev cX9_needLink : ByteArray := prog_1_method_19_code
def yX9_needLink : MethodName := ⟨RX9, "needLink", "(I)V"⟩
abbrev cX9_slotThere : ByteArray := prog_1_method_20_code
def yX9_slotThere : MethodName := ⟨RX9, "slotThere", "(I)I"⟩
abbrev cX9_needKind : ByteArray := prog_1_method_21_code
def yX9_needKind : MethodName := ⟨RX9, "needKind", "(II)V"⟩
abbrev cX9_numberInRow : ByteArray := prog_1_method_22_code
def yX9_numberInRow : MethodName := ⟨RX9, "numberInRow", "(LTwinLinks$Rows;III)I"⟩
abbrev cX9_moveInRow : ByteArray := prog_1_method_23_code
def yX9_moveInRow : MethodName := ⟨RX9, "moveInRow", "(IIII)V"⟩
abbrev cX9_joinNew : ByteArray := prog_1_method_24_code
def yX9_joinNew : MethodName := ⟨RX9, "joinNew", "(IIII)V"⟩
def RX10 : String := "TwinLinksModel"
def TX10 : u_T := fun k => match k with
  | 0 => ("TwinLinksModel", "thrown", "I", false)
  | 1 => ("TwinLinksModel", "from", "[I", true)
  | 2 => ("TwinLinksModel", "to", "[I", true)
  | 3 => ("TwinLinksModel", "form", "[I", true)
  | 4 => ("TwinLinksModel", "rule", "[I", true)
  | 5 => ("TwinLinksModel", "links", "I", false)
  | 6 => ("TwinLinksModel", "used", "[Z", true)
  | 7 => ("TwinLinksModel", "number", "[I", true)
  | 8 => ("TwinLinksModel", "kind", "[I", true)
  | 9 => ("TwinLinksModel", "objects", "I", false)
  | 10 => ("TwinLinksModel", "numbers", "I", false)
  | 11 => ("TwinLinksModel", "hasMany", "[I", true)
  | 12 => ("TwinLinksModel", "hadMany", "[I", true)
  | 13 => ("TwinLinksModel", "has", "[I", true)
  | 14 => ("TwinLinksModel", "had", "[I", true)
  | 15 => ("TwinLinksModel", "path", "[I", true)
  | 16 => ("TwinLinksModel", "pathMany", "I", false)
  | 17 => ("TwinLinksModel", "steps", "[I", true)
  | 18 => ("TwinLinksModel", "queue", "[I", true)
  | 19 => ("TwinLinksModel", "gone", "[Z", true)
  | 20 => ("TwinLinksModel", "under", "[Z", true)
  | 21 => ("TwinLinksModel", "twin", "[I", true)
  | 22 => ("TwinLinksModel", "olds", "[I", true)
  | 23 => ("TwinLinksModel", "more", "[I", true)
  | 24 => ("TwinLinksModel", "known", "[B", true)
  | 25 => ("TwinLinksModel", "waiting", "[I", false)
  | 26 => ("TwinLinksModel", "kept", "[I", false)
  | 27 => ("TwinLinksModel", "keptMany", "I", false)
  | 28 => ("TwinLinksModel", "levels", "I", false)
  | 29 => ("TwinLinksModel", "levelAt", "[I", true)
  | _ => ("TwinLinksModel", "readAt", "I", false)
def tyX10 : Nat → FieldType := fun k => match k with
  | 0 => .int
  | 1 => .array .int
  | 2 => .array .int
  | 3 => .array .int
  | 4 => .array .int
  | 5 => .int
  | 6 => .array .boolean
  | 7 => .array .int
  | 8 => .array .int
  | 9 => .int
  | 10 => .int
  | 11 => .array .int
  | 12 => .array .int
  | 13 => .array .int
  | 14 => .array .int
  | 15 => .array .int
  | 16 => .int
  | 17 => .array .int
  | 18 => .array .int
  | 19 => .array .boolean
  | 20 => .array .boolean
  | 21 => .array .int
  | 22 => .array .int
  | 23 => .array .int
  | 24 => .array .byte
  | 25 => .array .int
  | 26 => .array .int
  | 27 => .int
  | 28 => .int
  | 29 => .array .int
  | _ => .int
abbrev wsX100 : List Cond := u_ws RX10 TX10 31
theorem nmX10 : ∀ a, a < 31 → ∀ b, b < 31 → a ≠ b → (TX10 a).2.1 ≠ (TX10 b).2.1 := by decide +kernel
theorem tyX10_ok : ∀ k, k < 31 → parseFieldDescriptor (TX10 k).2.2.1 = some (tyX10 k) := by decide +kernel
abbrev cX10_thrown : ByteArray := prog_12_method_1_code
def yX10_thrown : MethodName := ⟨RX10, "thrown", "()I"⟩
abbrev cX10_fails : ByteArray := prog_12_method_2_code
def yX10_fails : MethodName := ⟨RX10, "fails", "(I)Z"⟩
abbrev cX10_init : ByteArray := prog_12_method_3_code
def yX10_init : MethodName := ⟨RX10, "<init>", "()V"⟩
abbrev cX10_isLink : ByteArray := prog_12_method_4_code
def yX10_isLink : MethodName := ⟨RX10, "isLink", "(I)Z"⟩
abbrev cX10_placeOf : ByteArray := prog_12_method_5_code
def yX10_placeOf : MethodName := ⟨RX10, "placeOf", "(I)I"⟩
abbrev cX10_link : ByteArray := prog_12_method_6_code
def yX10_link : MethodName := ⟨RX10, "link", "(IIII)I"⟩
abbrev cX10_fresh : ByteArray := prog_12_method_7_code
def yX10_fresh : MethodName := ⟨RX10, "fresh", "(I)I"⟩
abbrev cX10_make : ByteArray := prog_12_method_8_code
def yX10_make : MethodName := ⟨RX10, "make", "(I)I"⟩
abbrev cX10_indexIn : ByteArray := prog_12_method_9_code
def yX10_indexIn : MethodName := ⟨RX10, "indexIn", "([I[III)I"⟩
abbrev cX10_insert : ByteArray := prog_12_method_10_code
def yX10_insert : MethodName := ⟨RX10, "insert", "([I[IIII)V"⟩
abbrev cX10_remove : ByteArray := prog_12_method_11_code
def yX10_remove : MethodName := ⟨RX10, "remove", "([I[III)V"⟩
abbrev cX10_part : ByteArray := prog_12_method_12_code
def yX10_part : MethodName := ⟨RX10, "part", "(III)V"⟩
abbrev cX10_isHad : ByteArray := prog_12_method_13_code
def yX10_isHad : MethodName := ⟨RX10, "isHad", "(III)Z"⟩
abbrev cX10_owns : ByteArray := prog_12_method_14_code
def yX10_owns : MethodName := ⟨RX10, "owns", "(II)Z"⟩
abbrev cX10_measure : ByteArray := prog_12_method_15_code
def yX10_measure : MethodName := ⟨RX10, "measure", "(IZ)V"⟩
abbrev cX10_walk : ByteArray := prog_12_method_16_code
def yX10_walk : MethodName := ⟨RX10, "walk", "(I)V"⟩
abbrev cX10_add : ByteArray := prog_12_method_17_code
def yX10_add : MethodName := ⟨RX10, "add", "(I)V"⟩
abbrev cX10_wrong : ByteArray := prog_12_method_18_code
def yX10_wrong : MethodName := ⟨RX10, "wrong", "(III)I"⟩
abbrev cX10_set : ByteArray := prog_12_method_19_code
def yX10_set : MethodName := ⟨RX10, "set", "(IIII)I"⟩
abbrev cX10_cut : ByteArray := prog_12_method_20_code
def yX10_cut : MethodName := ⟨RX10, "cut", "(III)I"⟩
abbrev cX10_goesToo : ByteArray := prog_12_method_21_code
def yX10_goesToo : MethodName := ⟨RX10, "goesToo", "(I)Z"⟩
abbrev cX10_barred : ByteArray := prog_12_method_22_code
def yX10_barred : MethodName := ⟨RX10, "barred", "(I)I"⟩
abbrev cX10_drop : ByteArray := prog_12_method_23_code
def yX10_drop : MethodName := ⟨RX10, "drop", "(I)I"⟩
abbrev cX10_firstBarred : ByteArray := prog_12_method_24_code
def yX10_firstBarred : MethodName := ⟨RX10, "firstBarred", "(I)I"⟩
abbrev cX10_erase : ByteArray := prog_12_method_25_code
def yX10_erase : MethodName := ⟨RX10, "erase", "(I)V"⟩
abbrev cX10_markUnder : ByteArray := prog_12_method_26_code
def yX10_markUnder : MethodName := ⟨RX10, "markUnder", "(I)I"⟩
abbrev cX10_isCrowded : ByteArray := prog_12_method_27_code
def yX10_isCrowded : MethodName := ⟨RX10, "isCrowded", "(I)Z"⟩
abbrev cX10_copy : ByteArray := prog_12_method_28_code
def yX10_copy : MethodName := ⟨RX10, "copy", "(I)I"⟩
abbrev cX10_copyRow : ByteArray := prog_12_method_29_code
def yX10_copyRow : MethodName := ⟨RX10, "copyRow", "(II)V"⟩
abbrev cX10_copyBack : ByteArray := prog_12_method_30_code
def yX10_copyBack : MethodName := ⟨RX10, "copyBack", "(II)V"⟩
abbrev cX10_copyBeside : ByteArray := prog_12_method_31_code
def yX10_copyBeside : MethodName := ⟨RX10, "copyBeside", "(II)V"⟩
abbrev cX10_isAlikeAtOnce : ByteArray := prog_12_method_32_code
def yX10_isAlikeAtOnce : MethodName := ⟨RX10, "isAlikeAtOnce", "(II)Z"⟩
abbrev cX10_openPart : ByteArray := prog_12_method_33_code
def yX10_openPart : MethodName := ⟨RX10, "openPart", "(II)I"⟩
abbrev cX10_alike : ByteArray := prog_12_method_34_code
def yX10_alike : MethodName := ⟨RX10, "alike", "(II)Z"⟩
abbrev cX10_at : ByteArray := prog_12_method_35_code
def yX10_at : MethodName := ⟨RX10, "at", "(III)I"⟩
abbrev cX10_back : ByteArray := prog_12_method_36_code
def yX10_back : MethodName := ⟨RX10, "back", "(III)I"⟩
abbrev cX10_owners : ByteArray := prog_12_method_37_code
def yX10_owners : MethodName := ⟨RX10, "owners", "(I)I"⟩
abbrev cX10_owned : ByteArray := prog_12_method_38_code
def yX10_owned : MethodName := ⟨RX10, "owned", "(I)I"⟩
abbrev cX10_depth : ByteArray := prog_12_method_39_code
def yX10_depth : MethodName := ⟨RX10, "depth", "(I)I"⟩
abbrev cX10_near : ByteArray := prog_12_method_40_code
def yX10_near : MethodName := ⟨RX10, "near", "(I)I"⟩
abbrev cX10_ask : ByteArray := prog_12_method_41_code
def yX10_ask : MethodName := ⟨RX10, "ask", "(II)I"⟩
abbrev cX10_size : ByteArray := prog_12_method_42_code
def yX10_size : MethodName := ⟨RX10, "size", "(III)I"⟩
abbrev cX10_way : ByteArray := prog_12_method_43_code
def yX10_way : MethodName := ⟨RX10, "way", "(II)I"⟩
abbrev cX10_path : ByteArray := prog_12_method_44_code
def yX10_path : MethodName := ⟨RX10, "path", "(I)I"⟩
abbrev cX10_longer : ByteArray := prog_12_method_45_code
def yX10_longer : MethodName := ⟨RX10, "longer", "([I)[I"⟩
abbrev cX10_keep : ByteArray := prog_12_method_46_code
def yX10_keep : MethodName := ⟨RX10, "keep", "(I)V"⟩
abbrev cX10_begin : ByteArray := prog_12_method_47_code
def yX10_begin : MethodName := ⟨RX10, "begin", "()I"⟩
abbrev cX10_keepRows : ByteArray := prog_12_method_48_code
def yX10_keepRows : MethodName := ⟨RX10, "keepRows", "(I)V"⟩
abbrev cX10_next : ByteArray := prog_12_method_49_code
def yX10_next : MethodName := ⟨RX10, "next", "()I"⟩
abbrev cX10_end : ByteArray := prog_12_method_50_code
def yX10_end : MethodName := ⟨RX10, "end", "(Z)I"⟩
abbrev cX10_takeBack : ByteArray := prog_12_method_51_code
def yX10_takeBack : MethodName := ⟨RX10, "takeBack", "()V"⟩
abbrev cX10_readRows : ByteArray := prog_12_method_52_code
def yX10_readRows : MethodName := ⟨RX10, "readRows", "(I)V"⟩
abbrev cX10_count : ByteArray := prog_12_method_53_code
def yX10_count : MethodName := ⟨RX10, "count", "(I)I"⟩
def RJx3273f : String := "java/lang/ClassCastException"
def TJx3273f : u_T := fun k => match k with
  | 0 => ("java/lang/Throwable", "cause", "Ljava/lang/Throwable;", false)
  | 1 => ("java/lang/Throwable", "stackTrace", "[Ljava/lang/StackTraceElement;", false)
  | 2 => ("java/lang/Throwable", "suppressedExceptions", "Ljava/util/List;", false)
  | 3 => ("java/lang/Throwable", "detailMessage", "Ljava/lang/String;", false)
  | 4 => ("java/lang/Throwable", "backtrace", "Ljava/lang/Object;", false)
  | _ => ("java/lang/Throwable", "depth", "I", false)
def tyJx3273f : Nat → FieldType := fun k => match k with
  | 0 => .object "java/lang/Throwable"
  | 1 => .array (.object "java/lang/StackTraceElement")
  | 2 => .object "java/util/List"
  | 3 => .object "java/lang/String"
  | 4 => .object "java/lang/Object"
  | _ => .int
abbrev wsJx3273f0 : List Cond := u_ws RJx3273f TJx3273f 6
theorem nmJx3273f : ∀ a, a < 6 → ∀ b, b < 6 → a ≠ b → (TJx3273f a).2.1 ≠ (TJx3273f b).2.1 := by decide +kernel
theorem tyJx3273f_ok : ∀ k, k < 6 → parseFieldDescriptor (TJx3273f k).2.2.1 = some (tyJx3273f k) := by decide +kernel
abbrev cJx3273f_init_a7421 : ByteArray := prog_13_method_2_code
def yJx3273f_init_a7421 : MethodName := ⟨RJx3273f, "<init>", "(Ljava/lang/String;)V"⟩
def RJ0 : String := "java/lang/String"
def TJ0 : u_T := fun k => match k with
  | _ => ("", "", "", false)
def tyJ0 : Nat → FieldType := fun k => match k with
  | _ => .int
abbrev wsJ00 : List Cond := u_ws RJ0 TJ0 0
theorem nmJ0 : ∀ a, a < 0 → ∀ b, b < 0 → a ≠ b → (TJ0 a).2.1 ≠ (TJ0 b).2.1 := by decide +kernel
theorem tyJ0_ok : ∀ k, k < 0 → parseFieldDescriptor (TJ0 k).2.2.1 = some (tyJ0 k) := by decide +kernel
def RJ10 : String := "java/lang/System"
def TJ10 : u_T := fun k => match k with
  | _ => ("", "", "", false)
def tyJ10 : Nat → FieldType := fun k => match k with
  | _ => .int
abbrev wsJ100 : List Cond := u_ws RJ10 TJ10 0
theorem nmJ10 : ∀ a, a < 0 → ∀ b, b < 0 → a ≠ b → (TJ10 a).2.1 ≠ (TJ10 b).2.1 := by decide +kernel
theorem tyJ10_ok : ∀ k, k < 0 → parseFieldDescriptor (TJ10 k).2.2.1 = some (tyJ10 k) := by decide +kernel
def RL : String := "TwinLinksLaw"
abbrev cL_link : ByteArray := method_3_code
def yL_link : MethodName := ⟨RL, "link", "(LTwinLinks;IIII[J)I"⟩
abbrev cL_make : ByteArray := method_4_code
def yL_make : MethodName := ⟨RL, "make", "(LTwinLinks;I[J)I"⟩
abbrev cL_set : ByteArray := method_5_code
def yL_set : MethodName := ⟨RL, "set", "(LTwinLinks;IIII[J)I"⟩
abbrev cL_cut : ByteArray := method_6_code
def yL_cut : MethodName := ⟨RL, "cut", "(LTwinLinks;III[J)I"⟩
abbrev cL_drop : ByteArray := method_7_code
def yL_drop : MethodName := ⟨RL, "drop", "(LTwinLinks;I[J)I"⟩
abbrev cL_copy : ByteArray := method_8_code
def yL_copy : MethodName := ⟨RL, "copy", "(LTwinLinks;I[J)I"⟩
abbrev cL_alike : ByteArray := method_9_code
def yL_alike : MethodName := ⟨RL, "alike", "(LTwinLinks;II[J)I"⟩
abbrev cL_at : ByteArray := method_10_code
def yL_at : MethodName := ⟨RL, "at", "(LTwinLinks;III[J)I"⟩
abbrev cL_back : ByteArray := method_11_code
def yL_back : MethodName := ⟨RL, "back", "(LTwinLinks;III[J)I"⟩
abbrev cL_ask : ByteArray := method_12_code
def yL_ask : MethodName := ⟨RL, "ask", "(LTwinLinks;II[J)I"⟩
abbrev cL_size : ByteArray := method_13_code
def yL_size : MethodName := ⟨RL, "size", "(LTwinLinks;III[J)I"⟩
abbrev cL_way : ByteArray := method_14_code
def yL_way : MethodName := ⟨RL, "way", "(LTwinLinks;II[J)I"⟩
abbrev cL_path : ByteArray := method_15_code
def yL_path : MethodName := ⟨RL, "path", "(LTwinLinks;I[J)I"⟩
abbrev cL_begin : ByteArray := method_16_code
def yL_begin : MethodName := ⟨RL, "begin", "(LTwinLinks;[J)I"⟩
abbrev cL_end : ByteArray := method_17_code
def yL_end : MethodName := ⟨RL, "end", "(LTwinLinks;Z[J)I"⟩
abbrev cL_count : ByteArray := method_18_code
def yL_count : MethodName := ⟨RL, "count", "(LTwinLinks;I[J)I"⟩
abbrev cL_law : ByteArray := code
def yL_law : MethodName := ⟨RL, "law", "([I)Z"⟩
abbrev vwCl : List vw_C := [(RJx3273f, TJx3273f, 6), (RX0, TX0, 5), (RX1, TX1, 6), (RX2, TX2, 5), (RX3, TX3, 2), (RX4, TX4, 3), (RX5, TX5, 5), (RX6, TX6, 2), (RX7, TX7, 4), (RX8, TX8, 4), (RX9, TX9, 10), (RX10, TX10, 31)]
end
section
/-! ints as whole numbers, with guards where a comparison, a place or a divisor asks for them -/
def tl_I (n : Int) : Int32 := Int32.ofInt n
abbrev tl_R (n : Int) : Prop := -2147483648 ≤ n ∧ n ≤ 2147483647
abbrev tl_in (i : Int) (n : Nat) : Prop := 0 ≤ i ∧ i < (n : Int)
def tl_gd {α : Type} (c : Prop) [Decidable c] (x : Option α) : Option α := if c then x else none
theorem tl_gs {α : Type} {c : Prop} [Decidable c] {x : Option α} {r : α} (h : tl_gd c x = some r) : c ∧ x = some r := by
  unfold tl_gd at h
  split at h
  · exact ⟨by assumption, h⟩
  · cases h
theorem tl_gt {α : Type} {c : Prop} [Decidable c] {x : Option α} (h : c) : tl_gd c x = x := by simp [tl_gd, h]
theorem tl_bs {α β : Type} {x : Option α} {f : α → Option β} {r : β} (h : x.bind f = some r) : ∃ a, x = some a ∧ f a = some r := by
  cases x with
  | none => cases h
  | some a => exact ⟨a, rfl, h⟩
theorem tl_toInt {n : Int} (h : tl_R n) : (tl_I n).toInt = n := Int32.toInt_ofInt_of_le (by omega) (by omega)
theorem tl_cl {n : Int} (h0 : 0 ≤ n) (h1 : n ≤ 2147483647) : (tl_I n).toNatClampNeg = n.toNat := Int32.toNatClampNeg_ofInt_of_le (by omega) (by omega)
theorem tl_add (a b : Int) : tl_I a + tl_I b = tl_I (a + b) := (Int32.ofInt_add a b).symm
theorem tl_sub (a b : Int) : tl_I a - tl_I b = tl_I (a - b) := (Int32.ofInt_sub a b).symm
theorem tl_mul (a b : Int) : tl_I a * tl_I b = tl_I (a * b) := (Int32.ofInt_mul a b).symm
theorem tl_neg (a : Int) : -tl_I a = tl_I (-a) := (Int32.ofInt_neg a).symm
theorem tl_lt {a b : Int} (ha : tl_R a) (hb : tl_R b) : tl_I a < tl_I b ↔ a < b := by rw [Int32.lt_iff_toInt_lt, tl_toInt ha, tl_toInt hb]
theorem tl_le {a b : Int} (ha : tl_R a) (hb : tl_R b) : tl_I a ≤ tl_I b ↔ a ≤ b := by rw [Int32.le_iff_toInt_le, tl_toInt ha, tl_toInt hb]
theorem tl_eq {a b : Int} (ha : tl_R a) (hb : tl_R b) : tl_I a = tl_I b ↔ a = b := by rw [← Int32.toInt_inj, tl_toInt ha, tl_toInt hb]
theorem tl_of (x : Int32) : tl_I x.toInt = x := Int32.ofInt_toInt x
theorem tl_Rof (x : Int32) : tl_R x.toInt := ⟨by have := x.le_toInt; omega, by have := x.toInt_lt; omega⟩
theorem tl_nat (n : Nat) : Int32.ofNat n = tl_I (n : Int) := Int32.ofInt_eq_ofNat.symm
theorem tl_I0 : tl_I 0 = 0 := rfl
theorem tl_R0 : tl_R 0 := by decide
theorem tl_div {a b : Int} (ha : 0 ≤ a) (ha2 : a ≤ 2147483647) (hb : 0 < b) (hb2 : b ≤ 2147483647) : tl_I a / tl_I b = tl_I (a / b) := by
  have h1 : tl_R (a / b) := ⟨by have := Int.ediv_nonneg ha (Int.le_of_lt hb); omega, by have := Int.ediv_le_self b ha; omega⟩
  rw [← Int32.toInt_inj, Int32.toInt_div_of_ne_left _ _ ?_, tl_toInt ⟨by omega, ha2⟩, tl_toInt ⟨by omega, hb2⟩, tl_toInt h1, Int.tdiv_eq_ediv_of_nonneg ha]
  intro h
  have h2 := congrArg Int32.toInt h
  rw [tl_toInt ⟨by omega, ha2⟩] at h2
  have h3 : Int32.minValue.toInt = -2147483648 := by decide
  omega
theorem tl_rem {a b : Int} (ha : 0 ≤ a) (ha2 : a ≤ 2147483647) (hb : 0 < b) (hb2 : b ≤ 2147483647) : tl_I a - tl_I a / tl_I b * tl_I b = tl_I (a % b) := by
  rw [tl_div ha ha2 hb hb2, tl_mul, tl_sub, Int.emod_def, Int.mul_comm]
theorem tl_ne0 {b : Int} (hb : 0 < b) (hb2 : b ≤ 2147483647) : ¬ tl_I b = 0 := fun h => by
  have := (tl_eq ⟨by omega, hb2⟩ tl_R0).mp (h.trans tl_I0.symm)
  omega
theorem tl_vin {i : Int} {n : Nat} (h : tl_in i n) (hn : n ≤ 2147483647) : vp_in (tl_I i) n := by
  rw [vp_in_iff, tl_toInt ⟨by omega, by omega⟩]
  exact h
/-! the cells of a world -/
def tl_ia (cA : ClassId) (a n : Nat) (f : Nat → Int) : Nat × va_E := (a, .inl (cA, n, .inl (fun j => tl_I (f j))))
def tl_ja (cA : ClassId) (a n : Nat) (f : Nat → Int64) : Nat × va_E := (a, .inl (cA, n, .inr (.inl f)))
def tl_qa (cA : ClassId) (a n : Nat) (f : Nat → Option Nat) : Nat × va_E := (a, .inl (cA, n, .inr (.inr (.inr (.inr f)))))
def tl_ob (a ci : Nat) (fs : List Value) : Nat × va_E := (a, .inr (ci, fs))
theorem tl_upd (f : Nat → Int) (k : Nat) (x : Int) : upd (fun j => tl_I (f j)) k (tl_I x) = fun j => tl_I (va_up f k x j) := by
  funext j
  by_cases h : j = k <;> simp [upd, va_up, h]
theorem tl_updL (f : Nat → Int64) (k : Nat) (x : Int64) : vp_updL f k x = va_up f k x := rfl
theorem tl_nz {x : Int} (h : x = 0 ∨ x = 1) : vp_nar .boolean (tl_I x) = tl_I x := by rcases h with rfl | rfl <;> decide
theorem tl_nb {x : Int} (h : -128 ≤ x ∧ x ≤ 127) : vp_nar .byte (tl_I x) = tl_I x := by
  have h1 : x = -128 + ((x + 128).toNat : Int) := by omega
  have h2 : (x + 128).toNat < 256 := by omega
  have key : ∀ k : Fin 256, vp_nar .byte (tl_I (-128 + ((k.val : Nat) : Int))) = tl_I (-128 + ((k.val : Nat) : Int)) := by decide +kernel
  rw [h1]
  exact key ⟨_, h2⟩
theorem tl_nar01 {x : Int} (h : x = 0 ∨ x = 1) : narrow .boolean (.int (tl_I x)) = .int (tl_I x) := by rcases h with rfl | rfl <;> rfl
/-! longs: shifts by ints, and back -/
def tl_lushr (x : Int64) (y : Int) : Int64 := (x.toUInt64 >>> ((tl_I y).toInt64.toUInt64 &&& Int64.toUInt64 63)).toInt64
def tl_lshl (x : Int64) (y : Int) : Int64 := x <<< ((tl_I y).toInt64 &&& 63)
def tl_l2i (x : Int64) : Int := x.toInt32.toInt
theorem tl_l2i_ok (x : Int64) : x.toInt32 = tl_I (tl_l2i x) := (tl_of x.toInt32).symm
def tl_i2l (x : Int) : Int64 := (tl_I x).toInt64
section TLA
variable {p : Program} {l : Launch} {e : Env} {R : Room} {s : State} {m : MethodId} {args : Array Value} {below : List Frame} {meth : Method} {c : Code} {H : Heap} {locs : List Loc} {cells slots : Nat} {Q : State → Prop}
variable {cc : ByteArray} {pc : Nat} {ls : Array Slot} {rest : List Value} {D : va_G} {cl : List vw_C} {A : Nat → Prop} {a : Nat} {tys : List (ClassId × FieldType)} {ws : va_W} {H0 : Heap} {α : Type} {F G : Option α} {r : α} {x y i : Int} {tgt : Nat} {off : Int}
theorem tr_iadd (hexec : p.tables.exec = Jvm.exec) (hb : c.code = cc) (hdg : decode cc pc = .ok (.iadd, 1)) (k : W p l e R s m args below meth c H locs cells slots Q (F0 m (pc + 1) ls (.int (tl_I (x + y)) :: rest))) : W p l e R s m args below meth c H locs cells slots Q (F0 m pc ls (.int (tl_I y) :: .int (tl_I x) :: rest)) := lv_iadd hexec hb hdg (by rw [tl_add]; exact k)
theorem tr_isub (hexec : p.tables.exec = Jvm.exec) (hb : c.code = cc) (hdg : decode cc pc = .ok (.isub, 1)) (k : W p l e R s m args below meth c H locs cells slots Q (F0 m (pc + 1) ls (.int (tl_I (x - y)) :: rest))) : W p l e R s m args below meth c H locs cells slots Q (F0 m pc ls (.int (tl_I y) :: .int (tl_I x) :: rest)) := lv_isub hexec hb hdg (by rw [tl_sub]; exact k)
theorem tr_imul (hexec : p.tables.exec = Jvm.exec) (hb : c.code = cc) (hdg : decode cc pc = .ok (.imul, 1)) (k : W p l e R s m args below meth c H locs cells slots Q (F0 m (pc + 1) ls (.int (tl_I (x * y)) :: rest))) : W p l e R s m args below meth c H locs cells slots Q (F0 m pc ls (.int (tl_I y) :: .int (tl_I x) :: rest)) := lv_imul hexec hb hdg (by rw [tl_mul]; exact k)
theorem tr_idiv (hexec : p.tables.exec = Jvm.exec) (hb : c.code = cc) (hf : tl_gd (0 ≤ x ∧ x ≤ 2147483647 ∧ 0 < y ∧ y ≤ 2147483647) F = some r) (hdg : decode cc pc = .ok (.idiv, 1)) (k : F = some r → W p l e R s m args below meth c H locs cells slots Q (F0 m (pc + 1) ls (.int (tl_I (x / y)) :: rest))) : W p l e R s m args below meth c H locs cells slots Q (F0 m pc ls (.int (tl_I y) :: .int (tl_I x) :: rest)) := by
  obtain ⟨⟨h1, h2, h3, h4⟩, hf⟩ := tl_gs hf
  exact lv_idiv hexec hb hdg (tl_ne0 h3 h4) (by rw [tl_div h1 h2 h3 h4]; exact k hf)
theorem tr_irem (hexec : p.tables.exec = Jvm.exec) (hb : c.code = cc) (hf : tl_gd (0 ≤ x ∧ x ≤ 2147483647 ∧ 0 < y ∧ y ≤ 2147483647) F = some r) (hdg : decode cc pc = .ok (.irem, 1)) (k : F = some r → W p l e R s m args below meth c H locs cells slots Q (F0 m (pc + 1) ls (.int (tl_I (x % y)) :: rest))) : W p l e R s m args below meth c H locs cells slots Q (F0 m pc ls (.int (tl_I y) :: .int (tl_I x) :: rest)) := by
  obtain ⟨⟨h1, h2, h3, h4⟩, hf⟩ := tl_gs hf
  exact lv_irem hexec hb hdg (tl_ne0 h3 h4) (by rw [tl_rem h1 h2 h3 h4]; exact k hf)
theorem tr_icmp_eq (hexec : p.tables.exec = Jvm.exec) (hb : c.code = cc) (hf : tl_gd (tl_R x ∧ tl_R y) (if x = y then F else G) = some r) (hdg : decode cc pc = .ok (.if_icmp .eq off, 3)) (ht : (pc : Int) + off = (tgt : Int)) (kt : x = y → F = some r → W p l e R s m args below meth c H locs cells slots Q (F0 m tgt ls rest)) (kf : ¬ x = y → G = some r → W p l e R s m args below meth c H locs cells slots Q (F0 m (pc + 3) ls rest)) : W p l e R s m args below meth c H locs cells slots Q (F0 m pc ls (.int (tl_I y) :: .int (tl_I x) :: rest)) := by
  obtain ⟨⟨h1, h2⟩, hf⟩ := tl_gs hf
  exact lv_icmp_eq hexec hb hdg ht (fun q => kt ((tl_eq h1 h2).mp q) (by rw [if_pos ((tl_eq h1 h2).mp q)] at hf; exact hf)) (fun q => kf (fun z => q ((tl_eq h1 h2).mpr z)) (by rw [if_neg (fun z => q ((tl_eq h1 h2).mpr z))] at hf; exact hf))
theorem tr_icmp_ne (hexec : p.tables.exec = Jvm.exec) (hb : c.code = cc) (hf : tl_gd (tl_R x ∧ tl_R y) (if x = y then F else G) = some r) (hdg : decode cc pc = .ok (.if_icmp .ne off, 3)) (ht : (pc : Int) + off = (tgt : Int)) (kt : x = y → F = some r → W p l e R s m args below meth c H locs cells slots Q (F0 m (pc + 3) ls rest)) (kf : ¬ x = y → G = some r → W p l e R s m args below meth c H locs cells slots Q (F0 m tgt ls rest)) : W p l e R s m args below meth c H locs cells slots Q (F0 m pc ls (.int (tl_I y) :: .int (tl_I x) :: rest)) := by
  obtain ⟨⟨h1, h2⟩, hf⟩ := tl_gs hf
  exact lv_icmp_ne hexec hb hdg ht (fun q => kf (fun z => q ((tl_eq h1 h2).mpr z)) (by rw [if_neg (fun z => q ((tl_eq h1 h2).mpr z))] at hf; exact hf)) (fun q => kt ((tl_eq h1 h2).mp q) (by rw [if_pos ((tl_eq h1 h2).mp q)] at hf; exact hf))
theorem tr_icmp_lt (hexec : p.tables.exec = Jvm.exec) (hb : c.code = cc) (hf : tl_gd (tl_R x ∧ tl_R y) (if x < y then F else G) = some r) (hdg : decode cc pc = .ok (.if_icmp .lt off, 3)) (ht : (pc : Int) + off = (tgt : Int)) (kt : x < y → F = some r → W p l e R s m args below meth c H locs cells slots Q (F0 m tgt ls rest)) (kf : ¬ x < y → G = some r → W p l e R s m args below meth c H locs cells slots Q (F0 m (pc + 3) ls rest)) : W p l e R s m args below meth c H locs cells slots Q (F0 m pc ls (.int (tl_I y) :: .int (tl_I x) :: rest)) := by
  obtain ⟨⟨h1, h2⟩, hf⟩ := tl_gs hf
  exact lv_icmp_lt hexec hb hdg ht (fun q => kt ((tl_lt h1 h2).mp q) (by rw [if_pos ((tl_lt h1 h2).mp q)] at hf; exact hf)) (fun q => kf (fun z => q ((tl_lt h1 h2).mpr z)) (by rw [if_neg (fun z => q ((tl_lt h1 h2).mpr z))] at hf; exact hf))
theorem tr_icmp_ge (hexec : p.tables.exec = Jvm.exec) (hb : c.code = cc) (hf : tl_gd (tl_R x ∧ tl_R y) (if x < y then F else G) = some r) (hdg : decode cc pc = .ok (.if_icmp .ge off, 3)) (ht : (pc : Int) + off = (tgt : Int)) (kt : x < y → F = some r → W p l e R s m args below meth c H locs cells slots Q (F0 m (pc + 3) ls rest)) (kf : ¬ x < y → G = some r → W p l e R s m args below meth c H locs cells slots Q (F0 m tgt ls rest)) : W p l e R s m args below meth c H locs cells slots Q (F0 m pc ls (.int (tl_I y) :: .int (tl_I x) :: rest)) := by
  obtain ⟨⟨h1, h2⟩, hf⟩ := tl_gs hf
  refine lv_icmp_ge hexec hb hdg ht (fun q => ?_) (fun q => ?_)
  · have q : ¬ x < y := Int.not_lt.mpr ((tl_le h2 h1).mp q)
    rw [if_neg q] at hf
    exact kf q hf
  · have q : x < y := Int.not_le.mp (fun z => q ((tl_le h2 h1).mpr z))
    rw [if_pos q] at hf
    exact kt q hf
theorem tr_icmp_gt (hexec : p.tables.exec = Jvm.exec) (hb : c.code = cc) (hf : tl_gd (tl_R x ∧ tl_R y) (if y < x then F else G) = some r) (hdg : decode cc pc = .ok (.if_icmp .gt off, 3)) (ht : (pc : Int) + off = (tgt : Int)) (kt : y < x → F = some r → W p l e R s m args below meth c H locs cells slots Q (F0 m tgt ls rest)) (kf : ¬ y < x → G = some r → W p l e R s m args below meth c H locs cells slots Q (F0 m (pc + 3) ls rest)) : W p l e R s m args below meth c H locs cells slots Q (F0 m pc ls (.int (tl_I y) :: .int (tl_I x) :: rest)) := by
  obtain ⟨⟨h1, h2⟩, hf⟩ := tl_gs hf
  exact lv_icmp_gt hexec hb hdg ht (fun q => kt ((tl_lt h2 h1).mp q) (by rw [if_pos ((tl_lt h2 h1).mp q)] at hf; exact hf)) (fun q => kf (fun z => q ((tl_lt h2 h1).mpr z)) (by rw [if_neg (fun z => q ((tl_lt h2 h1).mpr z))] at hf; exact hf))
theorem tr_icmp_le (hexec : p.tables.exec = Jvm.exec) (hb : c.code = cc) (hf : tl_gd (tl_R x ∧ tl_R y) (if y < x then F else G) = some r) (hdg : decode cc pc = .ok (.if_icmp .le off, 3)) (ht : (pc : Int) + off = (tgt : Int)) (kt : y < x → F = some r → W p l e R s m args below meth c H locs cells slots Q (F0 m (pc + 3) ls rest)) (kf : ¬ y < x → G = some r → W p l e R s m args below meth c H locs cells slots Q (F0 m tgt ls rest)) : W p l e R s m args below meth c H locs cells slots Q (F0 m pc ls (.int (tl_I y) :: .int (tl_I x) :: rest)) := by
  obtain ⟨⟨h1, h2⟩, hf⟩ := tl_gs hf
  refine lv_icmp_le hexec hb hdg ht (fun q => ?_) (fun q => ?_)
  · have q : ¬ y < x := Int.not_lt.mpr ((tl_le h1 h2).mp q)
    rw [if_neg q] at hf
    exact kf q hf
  · have q : y < x := Int.not_le.mp (fun z => q ((tl_le h1 h2).mpr z))
    rw [if_pos q] at hf
    exact kt q hf
theorem tr_if_eq (hexec : p.tables.exec = Jvm.exec) (hb : c.code = cc) (hf : tl_gd (tl_R x) (if x = 0 then F else G) = some r) (hdg : decode cc pc = .ok (.ifCond .eq off, 3)) (ht : (pc : Int) + off = (tgt : Int)) (kt : x = 0 → F = some r → W p l e R s m args below meth c H locs cells slots Q (F0 m tgt ls rest)) (kf : ¬ x = 0 → G = some r → W p l e R s m args below meth c H locs cells slots Q (F0 m (pc + 3) ls rest)) : W p l e R s m args below meth c H locs cells slots Q (F0 m pc ls (.int (tl_I x) :: rest)) := by
  obtain ⟨h1, hf⟩ := tl_gs hf
  exact lv_if_eq hexec hb hdg ht (fun q => kt ((tl_eq h1 tl_R0).mp q) (by rw [if_pos ((tl_eq h1 tl_R0).mp q)] at hf; exact hf)) (fun q => kf (fun z => q ((tl_eq h1 tl_R0).mpr z)) (by rw [if_neg (fun z => q ((tl_eq h1 tl_R0).mpr z))] at hf; exact hf))
theorem tr_if_ne (hexec : p.tables.exec = Jvm.exec) (hb : c.code = cc) (hf : tl_gd (tl_R x) (if x = 0 then F else G) = some r) (hdg : decode cc pc = .ok (.ifCond .ne off, 3)) (ht : (pc : Int) + off = (tgt : Int)) (kt : x = 0 → F = some r → W p l e R s m args below meth c H locs cells slots Q (F0 m (pc + 3) ls rest)) (kf : ¬ x = 0 → G = some r → W p l e R s m args below meth c H locs cells slots Q (F0 m tgt ls rest)) : W p l e R s m args below meth c H locs cells slots Q (F0 m pc ls (.int (tl_I x) :: rest)) := by
  obtain ⟨h1, hf⟩ := tl_gs hf
  exact lv_if_ne hexec hb hdg ht (fun q => kf (fun z => q ((tl_eq h1 tl_R0).mpr z)) (by rw [if_neg (fun z => q ((tl_eq h1 tl_R0).mpr z))] at hf; exact hf)) (fun q => kt ((tl_eq h1 tl_R0).mp q) (by rw [if_pos ((tl_eq h1 tl_R0).mp q)] at hf; exact hf))
theorem tr_if_lt (hexec : p.tables.exec = Jvm.exec) (hb : c.code = cc) (hf : tl_gd (tl_R x) (if x < 0 then F else G) = some r) (hdg : decode cc pc = .ok (.ifCond .lt off, 3)) (ht : (pc : Int) + off = (tgt : Int)) (kt : x < 0 → F = some r → W p l e R s m args below meth c H locs cells slots Q (F0 m tgt ls rest)) (kf : ¬ x < 0 → G = some r → W p l e R s m args below meth c H locs cells slots Q (F0 m (pc + 3) ls rest)) : W p l e R s m args below meth c H locs cells slots Q (F0 m pc ls (.int (tl_I x) :: rest)) := by
  obtain ⟨h1, hf⟩ := tl_gs hf
  exact lv_if_lt hexec hb hdg ht (fun q => kt ((tl_lt h1 tl_R0).mp q) (by rw [if_pos ((tl_lt h1 tl_R0).mp q)] at hf; exact hf)) (fun q => kf (fun z => q ((tl_lt h1 tl_R0).mpr z)) (by rw [if_neg (fun z => q ((tl_lt h1 tl_R0).mpr z))] at hf; exact hf))
theorem tr_if_ge (hexec : p.tables.exec = Jvm.exec) (hb : c.code = cc) (hf : tl_gd (tl_R x) (if x < 0 then F else G) = some r) (hdg : decode cc pc = .ok (.ifCond .ge off, 3)) (ht : (pc : Int) + off = (tgt : Int)) (kt : x < 0 → F = some r → W p l e R s m args below meth c H locs cells slots Q (F0 m (pc + 3) ls rest)) (kf : ¬ x < 0 → G = some r → W p l e R s m args below meth c H locs cells slots Q (F0 m tgt ls rest)) : W p l e R s m args below meth c H locs cells slots Q (F0 m pc ls (.int (tl_I x) :: rest)) := by
  obtain ⟨h1, hf⟩ := tl_gs hf
  refine lv_if_ge hexec hb hdg ht (fun q => ?_) (fun q => ?_)
  · have q : ¬ x < 0 := Int.not_lt.mpr ((tl_le tl_R0 h1).mp q)
    rw [if_neg q] at hf
    exact kf q hf
  · have q : x < 0 := Int.not_le.mp (fun z => q ((tl_le tl_R0 h1).mpr z))
    rw [if_pos q] at hf
    exact kt q hf
theorem tr_if_gt (hexec : p.tables.exec = Jvm.exec) (hb : c.code = cc) (hf : tl_gd (tl_R x) (if 0 < x then F else G) = some r) (hdg : decode cc pc = .ok (.ifCond .gt off, 3)) (ht : (pc : Int) + off = (tgt : Int)) (kt : 0 < x → F = some r → W p l e R s m args below meth c H locs cells slots Q (F0 m tgt ls rest)) (kf : ¬ 0 < x → G = some r → W p l e R s m args below meth c H locs cells slots Q (F0 m (pc + 3) ls rest)) : W p l e R s m args below meth c H locs cells slots Q (F0 m pc ls (.int (tl_I x) :: rest)) := by
  obtain ⟨h1, hf⟩ := tl_gs hf
  exact lv_if_gt hexec hb hdg ht (fun q => kt ((tl_lt tl_R0 h1).mp q) (by rw [if_pos ((tl_lt tl_R0 h1).mp q)] at hf; exact hf)) (fun q => kf (fun z => q ((tl_lt tl_R0 h1).mpr z)) (by rw [if_neg (fun z => q ((tl_lt tl_R0 h1).mpr z))] at hf; exact hf))
theorem tr_if_le (hexec : p.tables.exec = Jvm.exec) (hb : c.code = cc) (hf : tl_gd (tl_R x) (if 0 < x then F else G) = some r) (hdg : decode cc pc = .ok (.ifCond .le off, 3)) (ht : (pc : Int) + off = (tgt : Int)) (kt : 0 < x → F = some r → W p l e R s m args below meth c H locs cells slots Q (F0 m (pc + 3) ls rest)) (kf : ¬ 0 < x → G = some r → W p l e R s m args below meth c H locs cells slots Q (F0 m tgt ls rest)) : W p l e R s m args below meth c H locs cells slots Q (F0 m pc ls (.int (tl_I x) :: rest)) := by
  obtain ⟨h1, hf⟩ := tl_gs hf
  refine lv_if_le hexec hb hdg ht (fun q => ?_) (fun q => ?_)
  · have q : ¬ 0 < x := Int.not_lt.mpr ((tl_le h1 tl_R0).mp q)
    rw [if_neg q] at hf
    exact kf q hf
  · have q : 0 < x := Int.not_le.mp (fun z => q ((tl_le h1 tl_R0).mpr z))
    rw [if_pos q] at hf
    exact kt q hf
end TLA
end
section
/-! array rows over whole numbers; contracts over worlds; calls -/
section TLB
variable {p : Program} {l : Launch} {e : Env} {R : Room} {s : State} {m : MethodId} {args : Array Value} {below : List Frame} {meth : Method} {c : Code} {H : Heap} {locs : List Loc} {cells slots : Nat} {Q : State → Prop}
variable {cc : ByteArray} {pc : Nat} {ls : Array Slot} {rest : List Value} {D : va_G} {cl : List vw_C} {A : Nat → Prop} {a n : Nat} {tys : List (ClassId × FieldType)} {ws : va_W} {H0 : Heap} {α : Type} {F G : Option α} {r : α} {x y i : Int} {cA : ClassId} {f : Nat → Int} {fl : Nat → Int64}
theorem tr_iald (hexec : p.tables.exec = Jvm.exec) (hb : c.code = cc) (hf : tl_gd (tl_in i n) F = some r) (hK : va_K D cl tys s) (hP : va_P D cl ws H) (q0 t0 : Nat) (ha : ws[q0]? = some (tl_ia cA a n f)) (ht : tys[t0]? = some (cA, .int)) (hn : n ≤ 2147483647) (hdg : decode cc pc = .ok (.iaload, 1))
    (kk : F = some r → W p l e R s m args below meth c H locs cells slots Q (F0 m (pc + 1) ls (.int (tl_I (f i.toNat)) :: rest))) : W p l e R s m args below meth c H locs cells slots Q (F0 m pc ls (.int (tl_I i) :: .ref a :: rest)) := by
  obtain ⟨h1, hf⟩ := tl_gs hf
  refine va_iald hexec hb hK hP q0 t0 ha ht (tl_vin h1 hn) hdg ?_
  rw [tl_cl h1.1 (by omega)]
  exact kk hf
theorem tr_zald (hexec : p.tables.exec = Jvm.exec) (hb : c.code = cc) (hf : tl_gd (tl_in i n) F = some r) (hK : va_K D cl tys s) (hP : va_P D cl ws H) (q0 t0 : Nat) (ha : ws[q0]? = some (tl_ia cA a n f)) (ht : tys[t0]? = some (cA, .boolean)) (hn : n ≤ 2147483647) (hdg : decode cc pc = .ok (.baload, 1))
    (kk : F = some r → W p l e R s m args below meth c H locs cells slots Q (F0 m (pc + 1) ls (.int (tl_I (f i.toNat)) :: rest))) : W p l e R s m args below meth c H locs cells slots Q (F0 m pc ls (.int (tl_I i) :: .ref a :: rest)) := by
  obtain ⟨h1, hf⟩ := tl_gs hf
  refine va_zald hexec hb hK hP q0 t0 ha ht (tl_vin h1 hn) hdg ?_
  rw [tl_cl h1.1 (by omega)]
  exact kk hf
theorem tr_bald (hexec : p.tables.exec = Jvm.exec) (hb : c.code = cc) (hf : tl_gd (tl_in i n) F = some r) (hK : va_K D cl tys s) (hP : va_P D cl ws H) (q0 t0 : Nat) (ha : ws[q0]? = some (tl_ia cA a n f)) (ht : tys[t0]? = some (cA, .byte)) (hn : n ≤ 2147483647) (hdg : decode cc pc = .ok (.baload, 1))
    (kk : F = some r → W p l e R s m args below meth c H locs cells slots Q (F0 m (pc + 1) ls (.int (tl_I (f i.toNat)) :: rest))) : W p l e R s m args below meth c H locs cells slots Q (F0 m pc ls (.int (tl_I i) :: .ref a :: rest)) := by
  obtain ⟨h1, hf⟩ := tl_gs hf
  refine va_bald hexec hb hK hP q0 t0 ha ht (tl_vin h1 hn) hdg ?_
  rw [tl_cl h1.1 (by omega)]
  exact kk hf
theorem tr_lald (hexec : p.tables.exec = Jvm.exec) (hb : c.code = cc) (hf : tl_gd (tl_in i n) F = some r) (hK : va_K D cl tys s) (hP : va_P D cl ws H) (q0 t0 : Nat) (ha : ws[q0]? = some (tl_ja cA a n fl)) (ht : tys[t0]? = some (cA, .long)) (hn : n ≤ 2147483647) (hdg : decode cc pc = .ok (.laload, 1))
    (kk : F = some r → W p l e R s m args below meth c H locs cells slots Q (F0 m (pc + 1) ls (.long (fl i.toNat) :: rest))) : W p l e R s m args below meth c H locs cells slots Q (F0 m pc ls (.int (tl_I i) :: .ref a :: rest)) := by
  obtain ⟨h1, hf⟩ := tl_gs hf
  refine va_lald hexec hb hK hP q0 t0 ha ht (tl_vin h1 hn) hdg ?_
  rw [tl_cl h1.1 (by omega)]
  exact kk hf
theorem tr_iast (hexec : p.tables.exec = Jvm.exec) (hb : c.code = cc) (hf : tl_gd (tl_in i n) F = some r) (hK : va_K D cl tys s) (hP : va_P D cl ws H) (hD : va_D A ws) (hS : va_S A H0 H locs) (q0 t0 : Nat) (ha : ws[q0]? = some (tl_ia cA a n f)) (ht : tys[t0]? = some (cA, .int)) (hn : n ≤ 2147483647) (hdg : decode cc pc = .ok (.iastore, 1))
    (kk : F = some r → ∀ (H1 : Heap) (locs1 : List Loc), va_P D cl (ws.set q0 (tl_ia cA a n (va_up f i.toNat x))) H1 → va_D A (ws.set q0 (tl_ia cA a n (va_up f i.toNat x))) → va_S A H0 H1 locs1 → W p l e R s m args below meth c H1 locs1 cells slots Q (F0 m (pc + 1) ls rest)) : W p l e R s m args below meth c H locs cells slots Q (F0 m pc ls (.int (tl_I x) :: .int (tl_I i) :: .ref a :: rest)) := by
  obtain ⟨h1, hf⟩ := tl_gs hf
  refine va_iast hexec hb hK hP hD hS q0 t0 ha ht (tl_vin h1 hn) hdg ?_
  rw [tl_cl h1.1 (by omega), tl_upd]
  exact kk hf
theorem tr_zast (hexec : p.tables.exec = Jvm.exec) (hb : c.code = cc) (hf : tl_gd (tl_in i n ∧ (x = 0 ∨ x = 1)) F = some r) (hK : va_K D cl tys s) (hP : va_P D cl ws H) (hD : va_D A ws) (hS : va_S A H0 H locs) (q0 t0 : Nat) (ha : ws[q0]? = some (tl_ia cA a n f)) (ht : tys[t0]? = some (cA, .boolean)) (hn : n ≤ 2147483647) (hdg : decode cc pc = .ok (.bastore, 1))
    (kk : F = some r → ∀ (H1 : Heap) (locs1 : List Loc), va_P D cl (ws.set q0 (tl_ia cA a n (va_up f i.toNat x))) H1 → va_D A (ws.set q0 (tl_ia cA a n (va_up f i.toNat x))) → va_S A H0 H1 locs1 → W p l e R s m args below meth c H1 locs1 cells slots Q (F0 m (pc + 1) ls rest)) : W p l e R s m args below meth c H locs cells slots Q (F0 m pc ls (.int (tl_I x) :: .int (tl_I i) :: .ref a :: rest)) := by
  obtain ⟨⟨h1, h2⟩, hf⟩ := tl_gs hf
  refine va_zast hexec hb hK hP hD hS q0 t0 ha ht (tl_vin h1 hn) hdg ?_
  rw [tl_nz h2, tl_cl h1.1 (by omega), tl_upd]
  exact kk hf
theorem tr_bast (hexec : p.tables.exec = Jvm.exec) (hb : c.code = cc) (hf : tl_gd (tl_in i n ∧ (-128 ≤ x ∧ x ≤ 127)) F = some r) (hK : va_K D cl tys s) (hP : va_P D cl ws H) (hD : va_D A ws) (hS : va_S A H0 H locs) (q0 t0 : Nat) (ha : ws[q0]? = some (tl_ia cA a n f)) (ht : tys[t0]? = some (cA, .byte)) (hn : n ≤ 2147483647) (hdg : decode cc pc = .ok (.bastore, 1))
    (kk : F = some r → ∀ (H1 : Heap) (locs1 : List Loc), va_P D cl (ws.set q0 (tl_ia cA a n (va_up f i.toNat x))) H1 → va_D A (ws.set q0 (tl_ia cA a n (va_up f i.toNat x))) → va_S A H0 H1 locs1 → W p l e R s m args below meth c H1 locs1 cells slots Q (F0 m (pc + 1) ls rest)) : W p l e R s m args below meth c H locs cells slots Q (F0 m pc ls (.int (tl_I x) :: .int (tl_I i) :: .ref a :: rest)) := by
  obtain ⟨⟨h1, h2⟩, hf⟩ := tl_gs hf
  refine va_bast hexec hb hK hP hD hS q0 t0 ha ht (tl_vin h1 hn) hdg ?_
  rw [tl_nb h2, tl_cl h1.1 (by omega), tl_upd]
  exact kk hf
theorem tr_last {xl : Int64} (hexec : p.tables.exec = Jvm.exec) (hb : c.code = cc) (hf : tl_gd (tl_in i n) F = some r) (hK : va_K D cl tys s) (hP : va_P D cl ws H) (hD : va_D A ws) (hS : va_S A H0 H locs) (q0 t0 : Nat) (ha : ws[q0]? = some (tl_ja cA a n fl)) (ht : tys[t0]? = some (cA, .long)) (hn : n ≤ 2147483647) (hdg : decode cc pc = .ok (.lastore, 1))
    (kk : F = some r → ∀ (H1 : Heap) (locs1 : List Loc), va_P D cl (ws.set q0 (tl_ja cA a n (va_up fl i.toNat xl))) H1 → va_D A (ws.set q0 (tl_ja cA a n (va_up fl i.toNat xl))) → va_S A H0 H1 locs1 → W p l e R s m args below meth c H1 locs1 cells slots Q (F0 m (pc + 1) ls rest)) : W p l e R s m args below meth c H locs cells slots Q (F0 m pc ls (.long xl :: .int (tl_I i) :: .ref a :: rest)) := by
  obtain ⟨h1, hf⟩ := tl_gs hf
  refine va_last hexec hb hK hP hD hS q0 t0 ha ht (tl_vin h1 hn) hdg ?_
  rw [tl_cl h1.1 (by omega), tl_updL]
  exact kk hf
end TLB
/-- a method's start: its world -/
def tl_Pre (D : va_G) (tys : List (ClassId × FieldType)) (w : va_W) (sz : Nat) : State → Prop := fun U => U.heap.size = sz ∧ va_P D vwCl w U.heap ∧ va_K D vwCl tys U ∧ va_D (fun _ => True) w
/-- its end: an answer and the world behind it -/
def tl_Q (D : va_G) (tys : List (ClassId × FieldType)) (w : va_W) (sz : Nat) (post : Option Value → va_W → Prop) : Array Value → State → Outcome → State → Prop := fun _ st oc t =>
  (∃ (v : Option Value) (w1 : va_W), oc = .returned v ∧ post v w1 ∧ va_P D vwCl w1 t.heap ∧ va_K D vwCl tys t ∧ va_D (va_A w sz) w1) ∧ va_F (va_A w sz) st t
def tl_MC (l : Launch) (D : va_G) (tys : List (ClassId × FieldType)) (y : MethodName) (ws : List Cond) (rm : Room) (As : List Value) (w : va_W) (mc ms : Nat) (post : Option Value → va_W → Prop) : Prop :=
  ∀ sz : Nat, Met l y ws rm (va_Pc As (tl_Pre D tys w sz)) (tl_Q D tys w sz post) mc ms (va_A w sz)
theorem tl_blind {D : va_G} {tys : List (ClassId × FieldType)} {w : va_W} {sz : Nat} {As : List Value} : FrameBlind (va_Pc As (tl_Pre D tys w sz)) := by
  intro a U g mk q
  obtain ⟨q0, q1, qP, qK, qD⟩ := q
  exact ⟨q0, q1, qP, va_K.moved (u := U) (U := U.calling g mk a) (Vm.Alike.refl U.vm) qK, qD⟩
section TLC
variable {p : Program} {l : Launch} {e : Env} {R : Room} {s : State} {m : MethodId} {args : Array Value} {below : List Frame} {meth : Method} {c : Code} {H : Heap} {locs : List Loc} {cells slots : Nat} {Q : State → Prop}
variable {cc bytes : ByteArray} {pc nL n index maxL mc ms : Nat} {ls : Array Slot} {rest st0 As : List Value} {D : va_G} {A : Nat → Prop} {b : Nat} {tys : List (ClassId × FieldType)} {ws wc wr : va_W} {a : Array Value} {post : Option Value → va_W → Prop} {y : MethodName} {wsc Ts : List Cond} {rm : Room} {ret : Option FieldType} {own C : String}
theorem tl_behind (hr : va_Run p l e R s m args below meth c H locs cells slots mc ms (F0 m pc ls st0) rest (tl_Q D tys wc H.size post a) (va_A wc H.size)) (hP : va_P D vwCl ws H) (hD : va_D A ws) (hS : va_S A s.heap H locs) (hA : ∀ q, s.heap.size ≤ q → A q) (isC isR : List Nat)
    (hC : isC.map (fun i => ws[i]?) = wc.map some) (hR : isR.map (fun i => ws[i]?) = wr.map some) (hn : va_nd isR = true) (hdis : ∀ i ∈ isR, i ∉ isC)
    (kk : ∀ (v : Option Value) (w1 : va_W) (H1 : Heap) (locs1 : List Loc), post v w1 → va_P D vwCl (wr ++ w1) H1 → va_D A (wr ++ w1) → va_S A s.heap H1 locs1 → W p l e R s m args below meth c H1 locs1 (cells + mc) (slots + ms) Q (F0 m (pc + 3) ls (v.toList ++ rest))) :
    W p l e R s m args below meth c H locs cells slots Q (F0 m pc ls st0) := by
  intro T hT X
  have hF := va_free (wc := wc) hD hS hA isC hC
  obtain ⟨v, st₀, t, T', L, h0, X', hL, e1, e2, ⟨⟨v', w1, hv, hp, hP1, -, hD1⟩, hz, hk⟩, st⟩ := hr T hT X
  cases hv
  rw [h0] at hz hk
  rw [← e1] at hz hk hP1
  obtain ⟨hP2, hD2⟩ := va_join (wr := wr) hP hD isC isR hC hR hn hdis hk hF hP1 hD1
  obtain ⟨t2, a1, b1⟩ := kk v w1 T'.heap (locs ++ L) hp hP2 hD2
    ⟨Nat.le_trans hS.1 hz, fun q h1 h2 => by rw [hk q (Nat.lt_of_lt_of_le h1 hS.1) (fun z => h2 (hF q z))]; exact hS.2.1 q h1 h2, fun q hq => by
      rcases List.mem_append.mp hq with h | h
      · exact hS.2.2 q h
      · exact hF _ (hL q h)⟩ T' rfl X'
  exact ⟨t2, st t2 a1, b1⟩
theorem tl_pre (hK : va_K D vwCl tys s) (hP : va_P D vwCl ws H) (hD : va_D A ws) (isC : List Nat) (hn : va_nd isC = true) (hC : isC.map (fun i => ws[i]?) = wc.map some) {U : State} (hU : U.heap = H) (hW : s.WarmedH U.vm) : tl_Pre D tys wc H.size U := by
  refine ⟨by rw [hU], ?_, va_K.moved hW.alike hK, (hD.sub isC hn hC).weaken (fun _ _ _ _ => trivial)⟩
  rw [hU]
  intro k q hk
  have h1 : (isC.map (fun i => ws[i]?))[k]? = some (some q) := by rw [hC, List.getElem?_map, hk]; rfl
  rw [List.getElem?_map] at h1
  cases hi : isC[k]? with
  | none => rw [hi] at h1; cases h1
  | some i => rw [hi] at h1; exact hP i q (Option.some.inj h1)
theorem tl_callV (S : CallFix p m c cc nL s args Ts own) (hM : tl_MC l D tys y wsc rm (.ref b :: As) wc mc ms post) (cw : CallW R s args own C index y bytes maxL ret wsc rm mc ms n)
    (hK : va_K D vwCl tys s) (hP : va_P D vwCl ws H) (hD : va_D A ws) (hS : va_S A s.heap H locs) (hA : ∀ q, s.heap.size ≤ q → A q) (isC isR : List Nat) (hnC : va_nd isC = true)
    (hC : isC.map (fun i => ws[i]?) = wc.map some) (hR : isR.map (fun i => ws[i]?) = wr.map some) (hnR : va_nd isR = true) (hdis : ∀ i ∈ isR, i ∉ isC)
    (q0 ci : Nat) {fs : List Value} {qq : vw_C} (he : ws[q0]? = some (tl_ob b ci fs)) (hc : vwCl[ci]? = some qq) (hq : qq.1 = C)
    (hn : As.length = n) (hsize : ls.size = nL) (hstack : st0 = As.reverse ++ .ref b :: rest) (hrm : (rest.map fun v => v.category).sum ≤ 8) (hdg : decode cc pc = .ok (.invokevirtual index, 3)) (hf : cells + mc ≤ R.cells ∧ slots + ms ≤ R.slots)
    (kk : ∀ (v : Option Value) (w1 : va_W) (H1 : Heap) (locs1 : List Loc), post v w1 → va_P D vwCl (wr ++ w1) H1 → va_D A (wr ++ w1) → va_S A s.heap H1 locs1 → W p l e R s m args below meth c H1 locs1 (cells + mc) (slots + ms) Q (F0 m (pc + 3) ls (v.toList ++ rest))) :
    W p l e R s m args below meth c H locs cells slots Q (F0 m pc ls st0) := by
  subst hstack
  subst hq
  exact tl_behind (va_runV (As := As) (rest := rest) S (hM H.size) cw ⟨tl_blind, va_recv hK hP hc he, fun U hU hW => ⟨rfl, tl_pre hK hP hD isC hnC hC hU hW⟩⟩ rfl hn hsize rfl (lv_room hrm) hdg hf) hP hD hS hA isC isR hC hR hnR hdis kk
theorem tl_callS (S : CallFix p m c cc nL s args Ts own) (hM : tl_MC l D tys y wsc rm As wc mc ms post) (cw : CallB R s args own index y bytes maxL ret wsc rm mc ms n ∧ (Cond.static y).before args s = true)
    (hK : va_K D vwCl tys s) (hP : va_P D vwCl ws H) (hD : va_D A ws) (hS : va_S A s.heap H locs) (hA : ∀ q, s.heap.size ≤ q → A q) (isC isR : List Nat) (hnC : va_nd isC = true)
    (hC : isC.map (fun i => ws[i]?) = wc.map some) (hR : isR.map (fun i => ws[i]?) = wr.map some) (hnR : va_nd isR = true) (hdis : ∀ i ∈ isR, i ∉ isC)
    (hn : As.length = n) (hsize : ls.size = nL) (hstack : st0 = As.reverse ++ rest) (hrm : (rest.map fun v => v.category).sum ≤ 8) (hdg : decode cc pc = .ok (.invokestatic index, 3)) (hf : cells + mc ≤ R.cells ∧ slots + ms ≤ R.slots)
    (kk : ∀ (v : Option Value) (w1 : va_W) (H1 : Heap) (locs1 : List Loc), post v w1 → va_P D vwCl (wr ++ w1) H1 → va_D A (wr ++ w1) → va_S A s.heap H1 locs1 → W p l e R s m args below meth c H1 locs1 (cells + mc) (slots + ms) Q (F0 m (pc + 3) ls (v.toList ++ rest))) :
    W p l e R s m args below meth c H locs cells slots Q (F0 m pc ls st0) := by
  subst hstack
  exact tl_behind (va_runS (As := As) (rest := rest) S (hM H.size) cw ⟨tl_blind, fun U hU hW => ⟨rfl, tl_pre hK hP hD isC hnC hC hU hW⟩⟩ rfl hn hsize rfl (lv_room hrm) hdg hf) hP hD hS hA isC isR hC hR hnR hdis kk
theorem tl_callI (S : CallFix p m c cc nL s args Ts own) (hM : tl_MC l D tys y wsc rm (.ref b :: As) wc mc ms post) (cw : CallB R s args own index y bytes maxL none wsc rm mc ms n ∧ y.name = "<init>" ∧ (Cond.instanceMethod y).before args s = true)
    (hK : va_K D vwCl tys s) (hP : va_P D vwCl ws H) (hD : va_D A ws) (hS : va_S A s.heap H locs) (hA : ∀ q, s.heap.size ≤ q → A q) (isC isR : List Nat) (hnC : va_nd isC = true)
    (hC : isC.map (fun i => ws[i]?) = wc.map some) (hR : isR.map (fun i => ws[i]?) = wr.map some) (hnR : va_nd isR = true) (hdis : ∀ i ∈ isR, i ∉ isC)
    (hn : As.length = n) (hsize : ls.size = nL) (hstack : st0 = As.reverse ++ .ref b :: rest) (hrm : (rest.map fun v => v.category).sum ≤ 8) (hdg : decode cc pc = .ok (.invokespecial index, 3)) (hf : cells + mc ≤ R.cells ∧ slots + ms ≤ R.slots)
    (kk : ∀ (v : Option Value) (w1 : va_W) (H1 : Heap) (locs1 : List Loc), post v w1 → va_P D vwCl (wr ++ w1) H1 → va_D A (wr ++ w1) → va_S A s.heap H1 locs1 → W p l e R s m args below meth c H1 locs1 (cells + mc) (slots + ms) Q (F0 m (pc + 3) ls (v.toList ++ rest))) :
    W p l e R s m args below meth c H locs cells slots Q (F0 m pc ls st0) := by
  subst hstack
  exact tl_behind (va_runI (As := As) (rest := rest) S (hM H.size) cw ⟨tl_blind, fun U hU hW => ⟨rfl, tl_pre hK hP hD isC hnC hC hU hW⟩⟩ rfl hn hsize rfl (lv_room hrm) hdg hf) hP hD hS hA isC isR hC hR hnR hdis kk
theorem tl_callV0 (S : CallFix p m c cc nL s args Ts own) (hM : tl_MC l D tys y wsc rm (.ref b :: As) wc 0 0 post) (cw : CallW R s args own C index y bytes maxL ret wsc rm 0 0 n)
    (hK : va_K D vwCl tys s) (hP : va_P D vwCl ws H) (hD : va_D A ws) (hS : va_S A s.heap H locs) (hA : ∀ q, s.heap.size ≤ q → A q) (isC isR : List Nat) (hnC : va_nd isC = true)
    (hC : isC.map (fun i => ws[i]?) = wc.map some) (hR : isR.map (fun i => ws[i]?) = wr.map some) (hnR : va_nd isR = true) (hdis : ∀ i ∈ isR, i ∉ isC)
    (q0 ci : Nat) {fs : List Value} {qq : vw_C} (he : ws[q0]? = some (tl_ob b ci fs)) (hc : vwCl[ci]? = some qq) (hq : qq.1 = C)
    (hn : As.length = n) (hsize : ls.size = nL) (hstack : st0 = As.reverse ++ .ref b :: rest) (hrm : (rest.map fun v => v.category).sum ≤ 8) (hdg : decode cc pc = .ok (.invokevirtual index, 3)) (hf : cells ≤ R.cells ∧ slots ≤ R.slots)
    (kk : ∀ (v : Option Value) (w1 : va_W) (H1 : Heap) (locs1 : List Loc), post v w1 → va_P D vwCl (wr ++ w1) H1 → va_D A (wr ++ w1) → va_S A s.heap H1 locs1 → W p l e R s m args below meth c H1 locs1 cells slots Q (F0 m (pc + 3) ls (v.toList ++ rest))) :
    W p l e R s m args below meth c H locs cells slots Q (F0 m pc ls st0) := tl_callV S hM cw hK hP hD hS hA isC isR hnC hC hR hnR hdis q0 ci he hc hq hn hsize hstack hrm hdg hf kk
theorem tl_callS0 (S : CallFix p m c cc nL s args Ts own) (hM : tl_MC l D tys y wsc rm As wc 0 0 post) (cw : CallB R s args own index y bytes maxL ret wsc rm 0 0 n ∧ (Cond.static y).before args s = true)
    (hK : va_K D vwCl tys s) (hP : va_P D vwCl ws H) (hD : va_D A ws) (hS : va_S A s.heap H locs) (hA : ∀ q, s.heap.size ≤ q → A q) (isC isR : List Nat) (hnC : va_nd isC = true)
    (hC : isC.map (fun i => ws[i]?) = wc.map some) (hR : isR.map (fun i => ws[i]?) = wr.map some) (hnR : va_nd isR = true) (hdis : ∀ i ∈ isR, i ∉ isC)
    (hn : As.length = n) (hsize : ls.size = nL) (hstack : st0 = As.reverse ++ rest) (hrm : (rest.map fun v => v.category).sum ≤ 8) (hdg : decode cc pc = .ok (.invokestatic index, 3)) (hf : cells ≤ R.cells ∧ slots ≤ R.slots)
    (kk : ∀ (v : Option Value) (w1 : va_W) (H1 : Heap) (locs1 : List Loc), post v w1 → va_P D vwCl (wr ++ w1) H1 → va_D A (wr ++ w1) → va_S A s.heap H1 locs1 → W p l e R s m args below meth c H1 locs1 cells slots Q (F0 m (pc + 3) ls (v.toList ++ rest))) :
    W p l e R s m args below meth c H locs cells slots Q (F0 m pc ls st0) := tl_callS S hM cw hK hP hD hS hA isC isR hnC hC hR hnR hdis hn hsize hstack hrm hdg hf kk
theorem tl_fin {w w1 : va_W} {v : Option Value} {t : State} (hAe : A = va_A w s.heap.size) (hp : post v w1) (hP : va_P D vwCl w1 H) (hK : va_K D vwCl tys s) (hD : va_D A w1) (hS : va_S A s.heap H locs) (ht : t.heap = H) (hW : s.WarmedH t.vm) : tl_Q D tys w s.heap.size post args s (.returned v) t := by
  subst hAe
  exact ⟨⟨v, w1, rfl, hp, by rw [ht]; exact hP, va_K.moved hW.alike hK, hD⟩, hS.F ht⟩
end TLC
abbrev tl_tys (cy : Nat → ClassId) : List (ClassId × FieldType) := [(cy 0, .byte), (cy 1, .int), (cy 2, .long), (cy 3, .boolean), (cy 4, .object "TwinLinks$House")]
def tl_N : Nat := 1000000
end
section
/-- the words of the tables that a call may hand on: one list for every method -/
def tl_T : List Cond := lw_tbl.filter goodWord
def tl_w (y : MethodName) (cc : ByteArray) (maxL : Nat) (ret : Option FieldType) : List Cond := Cond.code y cc maxL ret :: tl_T
theorem tl_tin {w : Cond} (i : Nat) (h : lw_tbl[i]? = some w) (hg : goodWord w = true) : w ∈ tl_T := List.mem_filter.mpr ⟨List.mem_of_getElem? h, hg⟩
theorem tl_tgood {w : Cond} (h : w ∈ tl_T) : w ∈ tl_T ∧ ((w.onTables && w.keeps) = true ∨ ∃ ty, w = .arrayClass ty) := ⟨h, good_of_word (List.mem_filter.mp h).2⟩
theorem tl_wgood {y : MethodName} {cc : ByteArray} {maxL : Nat} {ret : Option FieldType} (h : Cond.code y cc maxL ret ∈ tl_T) : GoodIn tl_T (tl_w y cc maxL ret) := fun w hw => (List.mem_cons.mp hw).elim (fun e => by rw [e]; exact tl_tgood h) tl_tgood
theorem tl_gV {own C : String} {idx : Nat} {y : MethodName} {cc : ByteArray} {maxL : Nat} {ret : Option FieldType} (h1 : Cond.methodLink own idx y ∈ tl_T) (h2 : Cond.instanceMethod y ∈ tl_T) (h3 : Cond.selects C y y ∈ tl_T) (h4 : Cond.initialized C ∈ tl_T) (h5 : Cond.code y cc maxL ret ∈ tl_T) : GoodIn tl_T (wsV own idx C y (tl_w y cc maxL ret)) := by
  intro w hw
  unfold wsV at hw
  rcases List.mem_append.mp hw with h | h
  · simp only [List.mem_cons, List.not_mem_nil, or_false] at h
    rcases h with rfl | rfl | rfl | rfl
    · exact tl_tgood h1
    · exact tl_tgood h2
    · exact tl_tgood h3
    · exact tl_tgood h4
  · exact tl_wgood h5 w h
theorem tl_gS {own : String} {idx : Nat} {y : MethodName} {cc : ByteArray} {maxL : Nat} {ret : Option FieldType} (h1 : Cond.methodLink own idx y ∈ tl_T) (h2 : Cond.static y ∈ tl_T) (h4 : Cond.initialized y.cls ∈ tl_T) (h5 : Cond.code y cc maxL ret ∈ tl_T) : GoodIn tl_T (va_wsS own idx y (tl_w y cc maxL ret)) := by
  intro w hw
  unfold va_wsS at hw
  rcases List.mem_append.mp hw with h | h
  · simp only [List.mem_cons, List.not_mem_nil, or_false] at h
    rcases h with rfl | rfl | rfl
    · exact tl_tgood h1
    · exact tl_tgood h2
    · exact tl_tgood h4
  · exact tl_wgood h5 w h
/-- a contract out of a walk of its body -/
theorem tl_ofW {l : Launch} {D : va_G} {tys : List (ClassId × FieldType)} {y : MethodName} {rm : Room} {As : List Value} {w : va_W} {mc ms : Nat} {post : Option Value → va_W → Prop} {cc : ByteArray} {maxL : Nat} {ret : Option FieldType}
    (hy : plainName y.cls = true) (hlen : (lg_sl As).length ≤ maxL)
    (body : ∀ (p : Program) (e : Env) (s : State) (m : MethodId) (below : List Frame) (meth : Method) (c : Code), p.tables.exec = Jvm.exec → c.code = cc → meth.sig.returnType = ret → c.maxLocals = maxL → (∀ w ∈ tl_T, w.before As.toArray s = true) → s.vm.findClass y.cls = some m.cls → meth.locks = false → meth.name = y.name →
      ∀ A : Nat → Prop, A = va_A w s.heap.size → (∀ q, s.heap.size ≤ q → A q) → va_P D vwCl w s.heap → va_K D vwCl tys s → va_D A w → va_S A s.heap s.heap [] → ∀ ls : Array Slot, lv_has ls maxL (lv_args 0 As) →
      W p l e rm s m As.toArray below meth c s.heap [] 0 0 (MQ below (tl_Q D tys w s.heap.size post) As.toArray s mc ms A) (F0 m 0 ls [])) : tl_MC l D tys y (tl_w y cc maxL ret) rm As w mc ms post := by
  intro sz
  refine Met.ofW (cc := cc) (maxL := maxL) (ret := ret) hy rfl ?_
  intro p e s m args below meth c s₁ B hml hv
  obtain ⟨rfl, hsz, hP, hK, hD0⟩ := hv
  subst hsz
  have hl := lv_entry As (n := maxL) hlen
  rw [lg_entry_eq]
  have hts : ∀ w ∈ tl_w y cc maxL ret, w.before As.toArray s = true := atoms_spec (ws := tl_w y cc maxL ret) B.pre
  exact body p e s m below meth c B.exec B.bytes B.returns hml (fun w h => hts w (List.mem_cons_of_mem _ h)) (findClass_of_methodNamed B.named) B.notSynchronized (name_of_methodNamed B.named B.method).1 _ rfl (fun q h => Or.inr h) hP hK (hD0.self (sz := s.heap.size)) va_S.rf _ hl

theorem tw_1 : (.selects RX1 yX1_slotBearing yX1_slotBearing : Cond) ∈ tl_T := tl_tin 1 (by decide +kernel) rfl
theorem tw_5 : (.selects RX3 yX3_read yX3_read : Cond) ∈ tl_T := tl_tin 5 (by decide +kernel) rfl
theorem tw_7 : (.selects RX3 yX3_write yX3_write : Cond) ∈ tl_T := tl_tin 7 (by decide +kernel) rfl
theorem tw_8 : (.selects RX8 yX8_noteSteps yX8_noteSteps : Cond) ∈ tl_T := tl_tin 8 (by decide +kernel) rfl
theorem tw_9 : (.selects RX8 yX8_leastStep yX8_leastStep : Cond) ∈ tl_T := tl_tin 9 (by decide +kernel) rfl
theorem tw_11 : (.selects RX2 yX2_addThoseWithoutOwner yX2_addThoseWithoutOwner : Cond) ∈ tl_T := tl_tin 11 (by decide +kernel) rfl
theorem tw_12 : (.selects RX2 yX2_areOwnersGone yX2_areOwnersGone : Cond) ∈ tl_T := tl_tin 12 (by decide +kernel) rfl
theorem tw_13 : (.selects RX2 yX2_isBefore yX2_isBefore : Cond) ∈ tl_T := tl_tin 13 (by decide +kernel) rfl
theorem tw_14 : (.selects RX1 yX1_separateAll yX1_separateAll : Cond) ∈ tl_T := tl_tin 14 (by decide +kernel) rfl
theorem tw_15 : (.selects RX7 yX7_leastMissing yX7_leastMissing : Cond) ∈ tl_T := tl_tin 15 (by decide +kernel) rfl
theorem tw_16 : (.selects RX7 yX7_keepsOutsiders yX7_keepsOutsiders : Cond) ∈ tl_T := tl_tin 16 (by decide +kernel) rfl
theorem tw_17 : (.selects RX7 yX7_howManyOldHave yX7_howManyOldHave : Cond) ∈ tl_T := tl_tin 17 (by decide +kernel) rfl
theorem tw_18 : (.selects RX7 yX7_copyHas yX7_copyHas : Cond) ∈ tl_T := tl_tin 18 (by decide +kernel) rfl
theorem tw_19 : (.selects RX7 yX7_standIn yX7_standIn : Cond) ∈ tl_T := tl_tin 19 (by decide +kernel) rfl
theorem tw_20 : (.selects RX7 yX7_copyHad yX7_copyHad : Cond) ∈ tl_T := tl_tin 20 (by decide +kernel) rfl
theorem tw_21 : (.selects RX0 yX0_demand yX0_demand : Cond) ∈ tl_T := tl_tin 21 (by decide +kernel) rfl
theorem tw_22 : (.selects RX0 yX0_matchPair yX0_matchPair : Cond) ∈ tl_T := tl_tin 22 (by decide +kernel) rfl
theorem tw_23 : (.selects RX0 yX0_matchRows yX0_matchRows : Cond) ∈ tl_T := tl_tin 23 (by decide +kernel) rfl
theorem tw_61 : (.initialized RX5 : Cond) ∈ tl_T := tl_tin 61 (by decide +kernel) rfl
theorem tw_62 : (.initialized RX6 : Cond) ∈ tl_T := tl_tin 62 (by decide +kernel) rfl
theorem tw_63 : (.initialized RX8 : Cond) ∈ tl_T := tl_tin 63 (by decide +kernel) rfl
theorem tw_64 : (.initialized RX4 : Cond) ∈ tl_T := tl_tin 64 (by decide +kernel) rfl
theorem tw_65 : (.initialized RX2 : Cond) ∈ tl_T := tl_tin 65 (by decide +kernel) rfl
theorem tw_66 : (.initialized RX7 : Cond) ∈ tl_T := tl_tin 66 (by decide +kernel) rfl
theorem tw_67 : (.initialized RX0 : Cond) ∈ tl_T := tl_tin 67 (by decide +kernel) rfl
theorem tw_68 : (.initialized RX1 : Cond) ∈ tl_T := tl_tin 68 (by decide +kernel) rfl
theorem tw_69 : (.initialized RX3 : Cond) ∈ tl_T := tl_tin 69 (by decide +kernel) rfl
theorem tw_95 : (.fieldLink RX5 9 "TwinLinks$Told" "from" "[I" : Cond) ∈ tl_T := tl_tin 95 (by decide +kernel) rfl
theorem tw_96 : (.fieldLink RX5 15 "TwinLinks$Told" "to" "[I" : Cond) ∈ tl_T := tl_tin 96 (by decide +kernel) rfl
theorem tw_97 : (.fieldLink RX5 18 "TwinLinks$Told" "forms" "[I" : Cond) ∈ tl_T := tl_tin 97 (by decide +kernel) rfl
theorem tw_98 : (.fieldLink RX5 21 "TwinLinks$Told" "rules" "[I" : Cond) ∈ tl_T := tl_tin 98 (by decide +kernel) rfl
theorem tw_99 : (.fieldLink RX5 24 "TwinLinks$Told" "length" "I" : Cond) ∈ tl_T := tl_tin 99 (by decide +kernel) rfl
theorem tw_118 : (.fieldLink RX6 9 "TwinLinks$Trail" "numbers" "[I" : Cond) ∈ tl_T := tl_tin 118 (by decide +kernel) rfl
theorem tw_119 : (.fieldLink RX6 15 "TwinLinks$Trail" "length" "I" : Cond) ∈ tl_T := tl_tin 119 (by decide +kernel) rfl
theorem tw_137 : (.fieldLink RX4 9 "TwinLinks$Slots" "inside" "[Z" : Cond) ∈ tl_T := tl_tin 137 (by decide +kernel) rfl
theorem tw_138 : (.fieldLink RX4 15 "TwinLinks$Slots" "list" "[I" : Cond) ∈ tl_T := tl_tin 138 (by decide +kernel) rfl
theorem tw_139 : (.fieldLink RX4 19 "TwinLinks$Slots" "length" "I" : Cond) ∈ tl_T := tl_tin 139 (by decide +kernel) rfl
theorem tw_148 : (.fieldLink RX8 9 "TwinLinks$Walk" "told" "LTwinLinks$Told;" : Cond) ∈ tl_T := tl_tin 148 (by decide +kernel) rfl
theorem tw_149 : (.fieldLink RX8 15 "TwinLinks$Walk" "steps" "[I" : Cond) ∈ tl_T := tl_tin 149 (by decide +kernel) rfl
theorem tw_150 : (.fieldLink RX8 22 "TwinLinks$Walk" "reached" "LTwinLinks$Slots;" : Cond) ∈ tl_T := tl_tin 150 (by decide +kernel) rfl
theorem tw_151 : (.fieldLink RX8 26 "TwinLinks$Walk" "spare" "LTwinLinks$Slots;" : Cond) ∈ tl_T := tl_tin 151 (by decide +kernel) rfl
theorem tw_169 : (.fieldLink RX2 9 "TwinLinks$Leaving" "told" "LTwinLinks$Told;" : Cond) ∈ tl_T := tl_tin 169 (by decide +kernel) rfl
theorem tw_170 : (.fieldLink RX2 15 "TwinLinks$Leaving" "walk" "LTwinLinks$Walk;" : Cond) ∈ tl_T := tl_tin 170 (by decide +kernel) rfl
theorem tw_171 : (.fieldLink RX2 22 "TwinLinks$Leaving" "gone" "LTwinLinks$Slots;" : Cond) ∈ tl_T := tl_tin 171 (by decide +kernel) rfl
theorem tw_172 : (.fieldLink RX2 26 "TwinLinks$Leaving" "parts" "LTwinLinks$Slots;" : Cond) ∈ tl_T := tl_tin 172 (by decide +kernel) rfl
theorem tw_173 : (.fieldLink RX2 29 "TwinLinks$Leaving" "owners" "LTwinLinks$Slots;" : Cond) ∈ tl_T := tl_tin 173 (by decide +kernel) rfl
theorem tw_193 : (.fieldLink RX7 9 "TwinLinks$Twins" "told" "LTwinLinks$Told;" : Cond) ∈ tl_T := tl_tin 193 (by decide +kernel) rfl
theorem tw_194 : (.fieldLink RX7 15 "TwinLinks$Twins" "walk" "LTwinLinks$Walk;" : Cond) ∈ tl_T := tl_tin 194 (by decide +kernel) rfl
theorem tw_195 : (.fieldLink RX7 22 "TwinLinks$Twins" "old" "LTwinLinks$Slots;" : Cond) ∈ tl_T := tl_tin 195 (by decide +kernel) rfl
theorem tw_196 : (.fieldLink RX7 26 "TwinLinks$Twins" "twins" "[I" : Cond) ∈ tl_T := tl_tin 196 (by decide +kernel) rfl
theorem tw_212 : (.fieldLink RX0 9 "TwinLinks$Groups" "told" "LTwinLinks$Told;" : Cond) ∈ tl_T := tl_tin 212 (by decide +kernel) rfl
theorem tw_213 : (.fieldLink RX0 15 "TwinLinks$Groups" "leaders" "[I" : Cond) ∈ tl_T := tl_tin 213 (by decide +kernel) rfl
theorem tw_214 : (.fieldLink RX0 19 "TwinLinks$Groups" "firsts" "[I" : Cond) ∈ tl_T := tl_tin 214 (by decide +kernel) rfl
theorem tw_215 : (.fieldLink RX0 22 "TwinLinks$Groups" "seconds" "[I" : Cond) ∈ tl_T := tl_tin 215 (by decide +kernel) rfl
theorem tw_216 : (.fieldLink RX0 25 "TwinLinks$Groups" "length" "I" : Cond) ∈ tl_T := tl_tin 216 (by decide +kernel) rfl
theorem tw_241 : (.fieldLink RX3 11 "TwinLinks$Rows" "words" "[J" : Cond) ∈ tl_T := tl_tin 241 (by decide +kernel) rfl
theorem tw_242 : (.fieldLink RX3 15 "TwinLinks$Rows" "lengths" "[I" : Cond) ∈ tl_T := tl_tin 242 (by decide +kernel) rfl
theorem tw_249 : (.fieldLink RX1 9 "TwinLinks$House" "numbers" "[I" : Cond) ∈ tl_T := tl_tin 249 (by decide +kernel) rfl
theorem tw_250 : (.fieldLink RX1 15 "TwinLinks$House" "kinds" "[I" : Cond) ∈ tl_T := tl_tin 250 (by decide +kernel) rfl
theorem tw_251 : (.fieldLink RX1 21 "TwinLinks$House" "has" "LTwinLinks$Rows;" : Cond) ∈ tl_T := tl_tin 251 (by decide +kernel) rfl
theorem tw_252 : (.fieldLink RX1 25 "TwinLinks$House" "had" "LTwinLinks$Rows;" : Cond) ∈ tl_T := tl_tin 252 (by decide +kernel) rfl
theorem tw_253 : (.fieldLink RX1 28 "TwinLinks$House" "objects" "I" : Cond) ∈ tl_T := tl_tin 253 (by decide +kernel) rfl
theorem tw_254 : (.fieldLink RX1 32 "TwinLinks$House" "pairs" "I" : Cond) ∈ tl_T := tl_tin 254 (by decide +kernel) rfl
theorem tw_383 : (.instanceMethod yX5_howMany : Cond) ∈ tl_T := tl_tin 383 (by decide +kernel) rfl
theorem tw_384 : (.selects RX5 yX5_howMany yX5_howMany : Cond) ∈ tl_T := tl_tin 384 (by decide +kernel) rfl
theorem tw_385 : (.code yX5_howMany cX5_howMany 1 (some .int) : Cond) ∈ tl_T := tl_tin 385 (by decide +kernel) rfl
theorem tw_419 : (.instanceMethod yX1_admit : Cond) ∈ tl_T := tl_tin 419 (by decide +kernel) rfl
theorem tw_420 : (.selects RX1 yX1_admit yX1_admit : Cond) ∈ tl_T := tl_tin 420 (by decide +kernel) rfl
theorem tw_421 : (.code yX1_admit cX1_admit 4 (some .int) : Cond) ∈ tl_T := tl_tin 421 (by decide +kernel) rfl
theorem tw_422 : (.methodLink RX1 35 yX1_slotBearing : Cond) ∈ tl_T := tl_tin 422 (by decide +kernel) rfl
theorem tw_424 : (.instanceMethod yX1_slotBearing : Cond) ∈ tl_T := tl_tin 424 (by decide +kernel) rfl
theorem tw_425 : (.code yX1_slotBearing cX1_slotBearing 3 (some .int) : Cond) ∈ tl_T := tl_tin 425 (by decide +kernel) rfl
theorem tw_442 : (.instanceMethod yX5_knows : Cond) ∈ tl_T := tl_tin 442 (by decide +kernel) rfl
theorem tw_443 : (.selects RX5 yX5_knows yX5_knows : Cond) ∈ tl_T := tl_tin 443 (by decide +kernel) rfl
theorem tw_444 : (.code yX5_knows cX5_knows 2 (some .boolean) : Cond) ∈ tl_T := tl_tin 444 (by decide +kernel) rfl
theorem tw_475 : (.methodLink RX5 28 yX5_knows : Cond) ∈ tl_T := tl_tin 475 (by decide +kernel) rfl
theorem tw_481 : (.instanceMethod yX1_kindOf : Cond) ∈ tl_T := tl_tin 481 (by decide +kernel) rfl
theorem tw_482 : (.selects RX1 yX1_kindOf yX1_kindOf : Cond) ∈ tl_T := tl_tin 482 (by decide +kernel) rfl
theorem tw_483 : (.code yX1_kindOf cX1_kindOf 2 (some .int) : Cond) ∈ tl_T := tl_tin 483 (by decide +kernel) rfl
theorem tw_484 : (.methodLink RX1 39 yX4_isSlot : Cond) ∈ tl_T := tl_tin 484 (by decide +kernel) rfl
theorem tw_485 : (.static yX4_isSlot : Cond) ∈ tl_T := tl_tin 485 (by decide +kernel) rfl
theorem tw_486 : (.code yX4_isSlot cX4_isSlot 1 (some .boolean) : Cond) ∈ tl_T := tl_tin 486 (by decide +kernel) rfl
theorem tw_511 : (.methodLink RX1 52 yX3_holds : Cond) ∈ tl_T := tl_tin 511 (by decide +kernel) rfl
theorem tw_512 : (.instanceMethod yX3_holds : Cond) ∈ tl_T := tl_tin 512 (by decide +kernel) rfl
theorem tw_513 : (.selects RX3 yX3_holds yX3_holds : Cond) ∈ tl_T := tl_tin 513 (by decide +kernel) rfl
theorem tw_514 : (.code yX3_holds cX3_holds 6 (some .boolean) : Cond) ∈ tl_T := tl_tin 514 (by decide +kernel) rfl
theorem tw_515 : (.methodLink RX3 27 yX3_lengthOf : Cond) ∈ tl_T := tl_tin 515 (by decide +kernel) rfl
theorem tw_516 : (.instanceMethod yX3_lengthOf : Cond) ∈ tl_T := tl_tin 516 (by decide +kernel) rfl
theorem tw_517 : (.selects RX3 yX3_lengthOf yX3_lengthOf : Cond) ∈ tl_T := tl_tin 517 (by decide +kernel) rfl
theorem tw_518 : (.code yX3_lengthOf cX3_lengthOf 3 (some .int) : Cond) ∈ tl_T := tl_tin 518 (by decide +kernel) rfl
theorem tw_519 : (.methodLink RX3 19 yX3_isRow : Cond) ∈ tl_T := tl_tin 519 (by decide +kernel) rfl
theorem tw_520 : (.static yX3_isRow : Cond) ∈ tl_T := tl_tin 520 (by decide +kernel) rfl
theorem tw_521 : (.code yX3_isRow cX3_isRow 2 (some .boolean) : Cond) ∈ tl_T := tl_tin 521 (by decide +kernel) rfl
theorem tw_522 : (.methodLink RX3 23 yX3_rowOf : Cond) ∈ tl_T := tl_tin 522 (by decide +kernel) rfl
theorem tw_523 : (.static yX3_rowOf : Cond) ∈ tl_T := tl_tin 523 (by decide +kernel) rfl
theorem tw_524 : (.code yX3_rowOf cX3_rowOf 2 (some .int) : Cond) ∈ tl_T := tl_tin 524 (by decide +kernel) rfl
theorem tw_525 : (.methodLink RX3 30 yX3_read : Cond) ∈ tl_T := tl_tin 525 (by decide +kernel) rfl
theorem tw_527 : (.instanceMethod yX3_read : Cond) ∈ tl_T := tl_tin 527 (by decide +kernel) rfl
theorem tw_528 : (.code yX3_read cX3_read 6 (some .int) : Cond) ∈ tl_T := tl_tin 528 (by decide +kernel) rfl
theorem tw_529 : (.constantLong RX3 57 (255) : Cond) ∈ tl_T := tl_tin 529 (by decide +kernel) rfl
theorem tw_535 : (.instanceMethod yX1_has : Cond) ∈ tl_T := tl_tin 535 (by decide +kernel) rfl
theorem tw_536 : (.selects RX1 yX1_has yX1_has : Cond) ∈ tl_T := tl_tin 536 (by decide +kernel) rfl
theorem tw_537 : (.code yX1_has cX1_has 1 (some (.object "TwinLinks$Rows")) : Cond) ∈ tl_T := tl_tin 537 (by decide +kernel) rfl
theorem tw_556 : (.instanceMethod yX3_remove : Cond) ∈ tl_T := tl_tin 556 (by decide +kernel) rfl
theorem tw_557 : (.selects RX3 yX3_remove yX3_remove : Cond) ∈ tl_T := tl_tin 557 (by decide +kernel) rfl
theorem tw_558 : (.code yX3_remove cX3_remove 9 (some .boolean) : Cond) ∈ tl_T := tl_tin 558 (by decide +kernel) rfl
theorem tw_559 : (.methodLink RX3 43 yX3_write : Cond) ∈ tl_T := tl_tin 559 (by decide +kernel) rfl
theorem tw_561 : (.instanceMethod yX3_write : Cond) ∈ tl_T := tl_tin 561 (by decide +kernel) rfl
theorem tw_562 : (.code yX3_write cX3_write 8 none : Cond) ∈ tl_T := tl_tin 562 (by decide +kernel) rfl
theorem tw_563 : (.constantLong RX3 59 (-1) : Cond) ∈ tl_T := tl_tin 563 (by decide +kernel) rfl
theorem tw_565 : (.instanceMethod yX3_insert : Cond) ∈ tl_T := tl_tin 565 (by decide +kernel) rfl
theorem tw_566 : (.selects RX3 yX3_insert yX3_insert : Cond) ∈ tl_T := tl_tin 566 (by decide +kernel) rfl
theorem tw_567 : (.code yX3_insert cX3_insert 8 none : Cond) ∈ tl_T := tl_tin 567 (by decide +kernel) rfl
theorem tw_568 : (.methodLink RX3 39 yX4_isSlot : Cond) ∈ tl_T := tl_tin 568 (by decide +kernel) rfl
theorem tw_570 : (.instanceMethod yX5_hasRule : Cond) ∈ tl_T := tl_tin 570 (by decide +kernel) rfl
theorem tw_571 : (.selects RX5 yX5_hasRule yX5_hasRule : Cond) ∈ tl_T := tl_tin 571 (by decide +kernel) rfl
theorem tw_572 : (.code yX5_hasRule cX5_hasRule 3 (some .boolean) : Cond) ∈ tl_T := tl_tin 572 (by decide +kernel) rfl
theorem tw_577 : (.methodLink RX8 61 yX1_had : Cond) ∈ tl_T := tl_tin 577 (by decide +kernel) rfl
theorem tw_578 : (.instanceMethod yX1_had : Cond) ∈ tl_T := tl_tin 578 (by decide +kernel) rfl
theorem tw_579 : (.selects RX1 yX1_had yX1_had : Cond) ∈ tl_T := tl_tin 579 (by decide +kernel) rfl
theorem tw_580 : (.code yX1_had cX1_had 1 (some (.object "TwinLinks$Rows")) : Cond) ∈ tl_T := tl_tin 580 (by decide +kernel) rfl
theorem tw_581 : (.methodLink RX8 64 yX8_spread : Cond) ∈ tl_T := tl_tin 581 (by decide +kernel) rfl
theorem tw_582 : (.instanceMethod yX8_spread : Cond) ∈ tl_T := tl_tin 582 (by decide +kernel) rfl
theorem tw_583 : (.selects RX8 yX8_spread yX8_spread : Cond) ∈ tl_T := tl_tin 583 (by decide +kernel) rfl
theorem tw_584 : (.code yX8_spread cX8_spread 6 (some (.object "TwinLinks$Slots")) : Cond) ∈ tl_T := tl_tin 584 (by decide +kernel) rfl
theorem tw_585 : (.methodLink RX8 45 yX4_clear : Cond) ∈ tl_T := tl_tin 585 (by decide +kernel) rfl
theorem tw_586 : (.instanceMethod yX4_clear : Cond) ∈ tl_T := tl_tin 586 (by decide +kernel) rfl
theorem tw_587 : (.selects RX4 yX4_clear yX4_clear : Cond) ∈ tl_T := tl_tin 587 (by decide +kernel) rfl
theorem tw_588 : (.code yX4_clear cX4_clear 2 none : Cond) ∈ tl_T := tl_tin 588 (by decide +kernel) rfl
theorem tw_589 : (.methodLink RX8 68 yX4_add : Cond) ∈ tl_T := tl_tin 589 (by decide +kernel) rfl
theorem tw_590 : (.instanceMethod yX4_add : Cond) ∈ tl_T := tl_tin 590 (by decide +kernel) rfl
theorem tw_591 : (.selects RX4 yX4_add yX4_add : Cond) ∈ tl_T := tl_tin 591 (by decide +kernel) rfl
theorem tw_592 : (.code yX4_add cX4_add 2 none : Cond) ∈ tl_T := tl_tin 592 (by decide +kernel) rfl
theorem tw_593 : (.methodLink RX4 23 yX4_isSlot : Cond) ∈ tl_T := tl_tin 593 (by decide +kernel) rfl
theorem tw_594 : (.methodLink RX8 76 yX8_noteSteps : Cond) ∈ tl_T := tl_tin 594 (by decide +kernel) rfl
theorem tw_596 : (.instanceMethod yX8_noteSteps : Cond) ∈ tl_T := tl_tin 596 (by decide +kernel) rfl
theorem tw_597 : (.code yX8_noteSteps cX8_noteSteps 5 none : Cond) ∈ tl_T := tl_tin 597 (by decide +kernel) rfl
theorem tw_598 : (.methodLink RX8 52 yX4_length : Cond) ∈ tl_T := tl_tin 598 (by decide +kernel) rfl
theorem tw_599 : (.instanceMethod yX4_length : Cond) ∈ tl_T := tl_tin 599 (by decide +kernel) rfl
theorem tw_600 : (.selects RX4 yX4_length yX4_length : Cond) ∈ tl_T := tl_tin 600 (by decide +kernel) rfl
theorem tw_601 : (.code yX4_length cX4_length 1 (some .int) : Cond) ∈ tl_T := tl_tin 601 (by decide +kernel) rfl
theorem tw_602 : (.methodLink RX8 72 yX4_get : Cond) ∈ tl_T := tl_tin 602 (by decide +kernel) rfl
theorem tw_603 : (.instanceMethod yX4_get : Cond) ∈ tl_T := tl_tin 603 (by decide +kernel) rfl
theorem tw_604 : (.selects RX4 yX4_get yX4_get : Cond) ∈ tl_T := tl_tin 604 (by decide +kernel) rfl
theorem tw_605 : (.code yX4_get cX4_get 2 (some .int) : Cond) ∈ tl_T := tl_tin 605 (by decide +kernel) rfl
theorem tw_606 : (.methodLink RX8 98 yX4_isSlot : Cond) ∈ tl_T := tl_tin 606 (by decide +kernel) rfl
theorem tw_607 : (.methodLink RX8 48 yX8_addOwning : Cond) ∈ tl_T := tl_tin 607 (by decide +kernel) rfl
theorem tw_608 : (.instanceMethod yX8_addOwning : Cond) ∈ tl_T := tl_tin 608 (by decide +kernel) rfl
theorem tw_609 : (.selects RX8 yX8_addOwning yX8_addOwning : Cond) ∈ tl_T := tl_tin 609 (by decide +kernel) rfl
theorem tw_610 : (.code yX8_addOwning cX8_addOwning 5 none : Cond) ∈ tl_T := tl_tin 610 (by decide +kernel) rfl
theorem tw_611 : (.methodLink RX8 29 yX5_howMany : Cond) ∈ tl_T := tl_tin 611 (by decide +kernel) rfl
theorem tw_612 : (.methodLink RX8 35 yX5_hasRule : Cond) ∈ tl_T := tl_tin 612 (by decide +kernel) rfl
theorem tw_613 : (.methodLink RX8 39 yX3_addTo : Cond) ∈ tl_T := tl_tin 613 (by decide +kernel) rfl
theorem tw_614 : (.instanceMethod yX3_addTo : Cond) ∈ tl_T := tl_tin 614 (by decide +kernel) rfl
theorem tw_615 : (.selects RX3 yX3_addTo yX3_addTo : Cond) ∈ tl_T := tl_tin 615 (by decide +kernel) rfl
theorem tw_616 : (.code yX3_addTo cX3_addTo 6 none : Cond) ∈ tl_T := tl_tin 616 (by decide +kernel) rfl
theorem tw_617 : (.methodLink RX3 33 yX4_add : Cond) ∈ tl_T := tl_tin 617 (by decide +kernel) rfl
theorem tw_618 : (.methodLink RX8 80 yX8_stepsTo : Cond) ∈ tl_T := tl_tin 618 (by decide +kernel) rfl
theorem tw_619 : (.instanceMethod yX8_stepsTo : Cond) ∈ tl_T := tl_tin 619 (by decide +kernel) rfl
theorem tw_620 : (.selects RX8 yX8_stepsTo yX8_stepsTo : Cond) ∈ tl_T := tl_tin 620 (by decide +kernel) rfl
theorem tw_621 : (.code yX8_stepsTo cX8_stepsTo 2 (some .int) : Cond) ∈ tl_T := tl_tin 621 (by decide +kernel) rfl
theorem tw_622 : (.methodLink RX8 83 yX4_holds : Cond) ∈ tl_T := tl_tin 622 (by decide +kernel) rfl
theorem tw_623 : (.instanceMethod yX4_holds : Cond) ∈ tl_T := tl_tin 623 (by decide +kernel) rfl
theorem tw_624 : (.selects RX4 yX4_holds yX4_holds : Cond) ∈ tl_T := tl_tin 624 (by decide +kernel) rfl
theorem tw_625 : (.code yX4_holds cX4_holds 2 (some .boolean) : Cond) ∈ tl_T := tl_tin 625 (by decide +kernel) rfl
theorem tw_626 : (.methodLink RX8 87 yX6_clear : Cond) ∈ tl_T := tl_tin 626 (by decide +kernel) rfl
theorem tw_627 : (.instanceMethod yX6_clear : Cond) ∈ tl_T := tl_tin 627 (by decide +kernel) rfl
theorem tw_628 : (.selects RX6 yX6_clear yX6_clear : Cond) ∈ tl_T := tl_tin 628 (by decide +kernel) rfl
theorem tw_629 : (.code yX6_clear cX6_clear 1 none : Cond) ∈ tl_T := tl_tin 629 (by decide +kernel) rfl
theorem tw_630 : (.methodLink RX8 90 yX1_numberOf : Cond) ∈ tl_T := tl_tin 630 (by decide +kernel) rfl
theorem tw_631 : (.instanceMethod yX1_numberOf : Cond) ∈ tl_T := tl_tin 631 (by decide +kernel) rfl
theorem tw_632 : (.selects RX1 yX1_numberOf yX1_numberOf : Cond) ∈ tl_T := tl_tin 632 (by decide +kernel) rfl
theorem tw_633 : (.code yX1_numberOf cX1_numberOf 2 (some .int) : Cond) ∈ tl_T := tl_tin 633 (by decide +kernel) rfl
theorem tw_634 : (.methodLink RX8 93 yX6_add : Cond) ∈ tl_T := tl_tin 634 (by decide +kernel) rfl
theorem tw_635 : (.instanceMethod yX6_add : Cond) ∈ tl_T := tl_tin 635 (by decide +kernel) rfl
theorem tw_636 : (.selects RX6 yX6_add yX6_add : Cond) ∈ tl_T := tl_tin 636 (by decide +kernel) rfl
theorem tw_637 : (.code yX6_add cX6_add 2 none : Cond) ∈ tl_T := tl_tin 637 (by decide +kernel) rfl
theorem tw_638 : (.methodLink RX8 94 yX8_leastStep : Cond) ∈ tl_T := tl_tin 638 (by decide +kernel) rfl
theorem tw_640 : (.instanceMethod yX8_leastStep : Cond) ∈ tl_T := tl_tin 640 (by decide +kernel) rfl
theorem tw_641 : (.code yX8_leastStep cX8_leastStep 8 (some .int) : Cond) ∈ tl_T := tl_tin 641 (by decide +kernel) rfl
theorem tw_642 : (.methodLink RX8 55 yX1_has : Cond) ∈ tl_T := tl_tin 642 (by decide +kernel) rfl
theorem tw_664 : (.instanceMethod yX5_hasForm : Cond) ∈ tl_T := tl_tin 664 (by decide +kernel) rfl
theorem tw_665 : (.selects RX5 yX5_hasForm yX5_hasForm : Cond) ∈ tl_T := tl_tin 665 (by decide +kernel) rfl
theorem tw_666 : (.code yX5_hasForm cX5_hasForm 3 (some .boolean) : Cond) ∈ tl_T := tl_tin 666 (by decide +kernel) rfl
theorem tw_670 : (.instanceMethod yX3_get : Cond) ∈ tl_T := tl_tin 670 (by decide +kernel) rfl
theorem tw_671 : (.selects RX3 yX3_get yX3_get : Cond) ∈ tl_T := tl_tin 671 (by decide +kernel) rfl
theorem tw_672 : (.code yX3_get cX3_get 4 (some .int) : Cond) ∈ tl_T := tl_tin 672 (by decide +kernel) rfl
theorem tw_674 : (.instanceMethod yX1_separate : Cond) ∈ tl_T := tl_tin 674 (by decide +kernel) rfl
theorem tw_675 : (.selects RX1 yX1_separate yX1_separate : Cond) ∈ tl_T := tl_tin 675 (by decide +kernel) rfl
theorem tw_676 : (.code yX1_separate cX1_separate 4 (some .boolean) : Cond) ∈ tl_T := tl_tin 676 (by decide +kernel) rfl
theorem tw_677 : (.methodLink RX1 64 yX3_remove : Cond) ∈ tl_T := tl_tin 677 (by decide +kernel) rfl
theorem tw_682 : (.methodLink RX1 56 yX3_insert : Cond) ∈ tl_T := tl_tin 682 (by decide +kernel) rfl
theorem tw_683 : (.methodLink RX1 60 yX3_append : Cond) ∈ tl_T := tl_tin 683 (by decide +kernel) rfl
theorem tw_684 : (.instanceMethod yX3_append : Cond) ∈ tl_T := tl_tin 684 (by decide +kernel) rfl
theorem tw_685 : (.selects RX3 yX3_append yX3_append : Cond) ∈ tl_T := tl_tin 685 (by decide +kernel) rfl
theorem tw_686 : (.code yX3_append cX3_append 4 none : Cond) ∈ tl_T := tl_tin 686 (by decide +kernel) rfl
theorem tw_687 : (.methodLink RX3 47 yX3_insert : Cond) ∈ tl_T := tl_tin 687 (by decide +kernel) rfl
theorem tw_706 : (.methodLink RX2 32 yX4_clear : Cond) ∈ tl_T := tl_tin 706 (by decide +kernel) rfl
theorem tw_707 : (.methodLink RX2 35 yX4_add : Cond) ∈ tl_T := tl_tin 707 (by decide +kernel) rfl
theorem tw_708 : (.methodLink RX2 39 yX4_length : Cond) ∈ tl_T := tl_tin 708 (by decide +kernel) rfl
theorem tw_709 : (.methodLink RX2 43 yX1_has : Cond) ∈ tl_T := tl_tin 709 (by decide +kernel) rfl
theorem tw_710 : (.methodLink RX2 49 yX4_get : Cond) ∈ tl_T := tl_tin 710 (by decide +kernel) rfl
theorem tw_711 : (.methodLink RX2 53 yX8_addOwning : Cond) ∈ tl_T := tl_tin 711 (by decide +kernel) rfl
theorem tw_712 : (.methodLink RX2 59 yX2_addThoseWithoutOwner : Cond) ∈ tl_T := tl_tin 712 (by decide +kernel) rfl
theorem tw_714 : (.instanceMethod yX2_addThoseWithoutOwner : Cond) ∈ tl_T := tl_tin 714 (by decide +kernel) rfl
theorem tw_715 : (.code yX2_addThoseWithoutOwner cX2_addThoseWithoutOwner 3 none : Cond) ∈ tl_T := tl_tin 715 (by decide +kernel) rfl
theorem tw_716 : (.methodLink RX2 103 yX1_had : Cond) ∈ tl_T := tl_tin 716 (by decide +kernel) rfl
theorem tw_717 : (.methodLink RX2 106 yX2_areOwnersGone : Cond) ∈ tl_T := tl_tin 717 (by decide +kernel) rfl
theorem tw_719 : (.instanceMethod yX2_areOwnersGone : Cond) ∈ tl_T := tl_tin 719 (by decide +kernel) rfl
theorem tw_720 : (.code yX2_areOwnersGone cX2_areOwnersGone 2 (some .boolean) : Cond) ∈ tl_T := tl_tin 720 (by decide +kernel) rfl
theorem tw_721 : (.methodLink RX2 67 yX4_holds : Cond) ∈ tl_T := tl_tin 721 (by decide +kernel) rfl
theorem tw_726 : (.methodLink RX2 63 yX8_spread : Cond) ∈ tl_T := tl_tin 726 (by decide +kernel) rfl
theorem tw_727 : (.methodLink RX2 71 yX2_leastBar : Cond) ∈ tl_T := tl_tin 727 (by decide +kernel) rfl
theorem tw_728 : (.instanceMethod yX2_leastBar : Cond) ∈ tl_T := tl_tin 728 (by decide +kernel) rfl
theorem tw_729 : (.selects RX2 yX2_leastBar yX2_leastBar : Cond) ∈ tl_T := tl_tin 729 (by decide +kernel) rfl
theorem tw_730 : (.code yX2_leastBar cX2_leastBar 9 (some .int) : Cond) ∈ tl_T := tl_tin 730 (by decide +kernel) rfl
theorem tw_731 : (.methodLink RX2 79 yX5_howMany : Cond) ∈ tl_T := tl_tin 731 (by decide +kernel) rfl
theorem tw_732 : (.methodLink RX2 84 yX5_hasRule : Cond) ∈ tl_T := tl_tin 732 (by decide +kernel) rfl
theorem tw_733 : (.methodLink RX2 88 yX3_lengthOf : Cond) ∈ tl_T := tl_tin 733 (by decide +kernel) rfl
theorem tw_734 : (.methodLink RX2 94 yX3_get : Cond) ∈ tl_T := tl_tin 734 (by decide +kernel) rfl
theorem tw_735 : (.methodLink RX2 97 yX1_numberOf : Cond) ∈ tl_T := tl_tin 735 (by decide +kernel) rfl
theorem tw_736 : (.methodLink RX2 75 yX2_isBefore : Cond) ∈ tl_T := tl_tin 736 (by decide +kernel) rfl
theorem tw_738 : (.instanceMethod yX2_isBefore : Cond) ∈ tl_T := tl_tin 738 (by decide +kernel) rfl
theorem tw_739 : (.code yX2_isBefore cX2_isBefore 6 (some .boolean) : Cond) ∈ tl_T := tl_tin 739 (by decide +kernel) rfl
theorem tw_740 : (.methodLink RX2 110 yX8_stepsTo : Cond) ∈ tl_T := tl_tin 740 (by decide +kernel) rfl
theorem tw_749 : (.methodLink RX2 100 yX1_remove : Cond) ∈ tl_T := tl_tin 749 (by decide +kernel) rfl
theorem tw_750 : (.instanceMethod yX1_remove : Cond) ∈ tl_T := tl_tin 750 (by decide +kernel) rfl
theorem tw_751 : (.selects RX1 yX1_remove yX1_remove : Cond) ∈ tl_T := tl_tin 751 (by decide +kernel) rfl
theorem tw_752 : (.code yX1_remove cX1_remove 3 none : Cond) ∈ tl_T := tl_tin 752 (by decide +kernel) rfl
theorem tw_753 : (.methodLink RX1 45 yX1_numberOf : Cond) ∈ tl_T := tl_tin 753 (by decide +kernel) rfl
theorem tw_754 : (.methodLink RX1 48 yX1_separateAll : Cond) ∈ tl_T := tl_tin 754 (by decide +kernel) rfl
theorem tw_756 : (.instanceMethod yX1_separateAll : Cond) ∈ tl_T := tl_tin 756 (by decide +kernel) rfl
theorem tw_757 : (.code yX1_separateAll cX1_separateAll 4 none : Cond) ∈ tl_T := tl_tin 757 (by decide +kernel) rfl
theorem tw_758 : (.methodLink RX1 77 yX3_lengthOf : Cond) ∈ tl_T := tl_tin 758 (by decide +kernel) rfl
theorem tw_759 : (.methodLink RX1 81 yX3_get : Cond) ∈ tl_T := tl_tin 759 (by decide +kernel) rfl
theorem tw_760 : (.methodLink RX1 85 yX1_separate : Cond) ∈ tl_T := tl_tin 760 (by decide +kernel) rfl
theorem tw_772 : (.methodLink RX7 30 yX1_has : Cond) ∈ tl_T := tl_tin 772 (by decide +kernel) rfl
theorem tw_773 : (.methodLink RX7 36 yX8_spread : Cond) ∈ tl_T := tl_tin 773 (by decide +kernel) rfl
theorem tw_774 : (.methodLink RX7 42 yX4_clear : Cond) ∈ tl_T := tl_tin 774 (by decide +kernel) rfl
theorem tw_775 : (.methodLink RX7 45 yX4_length : Cond) ∈ tl_T := tl_tin 775 (by decide +kernel) rfl
theorem tw_776 : (.methodLink RX7 49 yX7_leastMissing : Cond) ∈ tl_T := tl_tin 776 (by decide +kernel) rfl
theorem tw_778 : (.instanceMethod yX7_leastMissing : Cond) ∈ tl_T := tl_tin 778 (by decide +kernel) rfl
theorem tw_779 : (.code yX7_leastMissing cX7_leastMissing 7 (some .int) : Cond) ∈ tl_T := tl_tin 779 (by decide +kernel) rfl
theorem tw_780 : (.methodLink RX7 85 yX4_get : Cond) ∈ tl_T := tl_tin 780 (by decide +kernel) rfl
theorem tw_781 : (.methodLink RX7 69 yX4_holds : Cond) ∈ tl_T := tl_tin 781 (by decide +kernel) rfl
theorem tw_782 : (.methodLink RX7 105 yX1_numberOf : Cond) ∈ tl_T := tl_tin 782 (by decide +kernel) rfl
theorem tw_783 : (.methodLink RX7 53 yX4_add : Cond) ∈ tl_T := tl_tin 783 (by decide +kernel) rfl
theorem tw_789 : (.methodLink RX7 60 yX5_howMany : Cond) ∈ tl_T := tl_tin 789 (by decide +kernel) rfl
theorem tw_790 : (.methodLink RX7 65 yX7_keepsOutsiders : Cond) ∈ tl_T := tl_tin 790 (by decide +kernel) rfl
theorem tw_792 : (.instanceMethod yX7_keepsOutsiders : Cond) ∈ tl_T := tl_tin 792 (by decide +kernel) rfl
theorem tw_793 : (.code yX7_keepsOutsiders cX7_keepsOutsiders 2 (some .boolean) : Cond) ∈ tl_T := tl_tin 793 (by decide +kernel) rfl
theorem tw_794 : (.methodLink RX7 108 yX5_hasForm : Cond) ∈ tl_T := tl_tin 794 (by decide +kernel) rfl
theorem tw_795 : (.methodLink RX7 112 yX5_hasRule : Cond) ∈ tl_T := tl_tin 795 (by decide +kernel) rfl
theorem tw_796 : (.methodLink RX7 72 yX7_howManyOldHave : Cond) ∈ tl_T := tl_tin 796 (by decide +kernel) rfl
theorem tw_798 : (.instanceMethod yX7_howManyOldHave : Cond) ∈ tl_T := tl_tin 798 (by decide +kernel) rfl
theorem tw_799 : (.code yX7_howManyOldHave cX7_howManyOldHave 6 (some .int) : Cond) ∈ tl_T := tl_tin 799 (by decide +kernel) rfl
theorem tw_800 : (.methodLink RX7 76 yX1_had : Cond) ∈ tl_T := tl_tin 800 (by decide +kernel) rfl
theorem tw_801 : (.methodLink RX7 79 yX3_lengthOf : Cond) ∈ tl_T := tl_tin 801 (by decide +kernel) rfl
theorem tw_802 : (.methodLink RX7 115 yX3_get : Cond) ∈ tl_T := tl_tin 802 (by decide +kernel) rfl
theorem tw_808 : (.methodLink RX7 89 yX4_isSlot : Cond) ∈ tl_T := tl_tin 808 (by decide +kernel) rfl
theorem tw_809 : (.methodLink RX7 92 yX1_kindOf : Cond) ∈ tl_T := tl_tin 809 (by decide +kernel) rfl
theorem tw_810 : (.methodLink RX7 95 yX1_admit : Cond) ∈ tl_T := tl_tin 810 (by decide +kernel) rfl
theorem tw_811 : (.methodLink RX7 98 yX7_copyHas : Cond) ∈ tl_T := tl_tin 811 (by decide +kernel) rfl
theorem tw_813 : (.instanceMethod yX7_copyHas : Cond) ∈ tl_T := tl_tin 813 (by decide +kernel) rfl
theorem tw_814 : (.code yX7_copyHas cX7_copyHas 7 none : Cond) ∈ tl_T := tl_tin 814 (by decide +kernel) rfl
theorem tw_815 : (.methodLink RX7 121 yX7_standIn : Cond) ∈ tl_T := tl_tin 815 (by decide +kernel) rfl
theorem tw_817 : (.instanceMethod yX7_standIn : Cond) ∈ tl_T := tl_tin 817 (by decide +kernel) rfl
theorem tw_818 : (.code yX7_standIn cX7_standIn 3 (some .int) : Cond) ∈ tl_T := tl_tin 818 (by decide +kernel) rfl
theorem tw_819 : (.methodLink RX7 118 yX7_twinOf : Cond) ∈ tl_T := tl_tin 819 (by decide +kernel) rfl
theorem tw_820 : (.instanceMethod yX7_twinOf : Cond) ∈ tl_T := tl_tin 820 (by decide +kernel) rfl
theorem tw_821 : (.selects RX7 yX7_twinOf yX7_twinOf : Cond) ∈ tl_T := tl_tin 821 (by decide +kernel) rfl
theorem tw_822 : (.code yX7_twinOf cX7_twinOf 2 (some .int) : Cond) ∈ tl_T := tl_tin 822 (by decide +kernel) rfl
theorem tw_823 : (.methodLink RX7 124 yX1_joinHas : Cond) ∈ tl_T := tl_tin 823 (by decide +kernel) rfl
theorem tw_824 : (.instanceMethod yX1_joinHas : Cond) ∈ tl_T := tl_tin 824 (by decide +kernel) rfl
theorem tw_825 : (.selects RX1 yX1_joinHas yX1_joinHas : Cond) ∈ tl_T := tl_tin 825 (by decide +kernel) rfl
theorem tw_826 : (.code yX1_joinHas cX1_joinHas 4 none : Cond) ∈ tl_T := tl_tin 826 (by decide +kernel) rfl
theorem tw_827 : (.methodLink RX7 102 yX7_copyHad : Cond) ∈ tl_T := tl_tin 827 (by decide +kernel) rfl
theorem tw_829 : (.instanceMethod yX7_copyHad : Cond) ∈ tl_T := tl_tin 829 (by decide +kernel) rfl
theorem tw_830 : (.code yX7_copyHad cX7_copyHad 8 none : Cond) ∈ tl_T := tl_tin 830 (by decide +kernel) rfl
theorem tw_831 : (.methodLink RX7 128 yX1_joinHad : Cond) ∈ tl_T := tl_tin 831 (by decide +kernel) rfl
theorem tw_832 : (.instanceMethod yX1_joinHad : Cond) ∈ tl_T := tl_tin 832 (by decide +kernel) rfl
theorem tw_833 : (.selects RX1 yX1_joinHad yX1_joinHad : Cond) ∈ tl_T := tl_tin 833 (by decide +kernel) rfl
theorem tw_834 : (.code yX1_joinHad cX1_joinHad 4 none : Cond) ∈ tl_T := tl_tin 834 (by decide +kernel) rfl
theorem tw_847 : (.methodLink RX0 29 yX0_demand : Cond) ∈ tl_T := tl_tin 847 (by decide +kernel) rfl
theorem tw_849 : (.instanceMethod yX0_demand : Cond) ∈ tl_T := tl_tin 849 (by decide +kernel) rfl
theorem tw_850 : (.code yX0_demand cX0_demand 5 none : Cond) ∈ tl_T := tl_tin 850 (by decide +kernel) rfl
theorem tw_851 : (.methodLink RX0 71 yX4_isSlot : Cond) ∈ tl_T := tl_tin 851 (by decide +kernel) rfl
theorem tw_852 : (.methodLink RX0 33 yX0_matchPair : Cond) ∈ tl_T := tl_tin 852 (by decide +kernel) rfl
theorem tw_854 : (.instanceMethod yX0_matchPair : Cond) ∈ tl_T := tl_tin 854 (by decide +kernel) rfl
theorem tw_855 : (.code yX0_matchPair cX0_matchPair 5 (some .boolean) : Cond) ∈ tl_T := tl_tin 855 (by decide +kernel) rfl
theorem tw_856 : (.methodLink RX0 37 yX1_kindOf : Cond) ∈ tl_T := tl_tin 856 (by decide +kernel) rfl
theorem tw_857 : (.methodLink RX0 43 yX5_howMany : Cond) ∈ tl_T := tl_tin 857 (by decide +kernel) rfl
theorem tw_858 : (.methodLink RX0 49 yX5_hasRule : Cond) ∈ tl_T := tl_tin 858 (by decide +kernel) rfl
theorem tw_859 : (.methodLink RX0 53 yX1_has : Cond) ∈ tl_T := tl_tin 859 (by decide +kernel) rfl
theorem tw_860 : (.methodLink RX0 57 yX0_matchRows : Cond) ∈ tl_T := tl_tin 860 (by decide +kernel) rfl
theorem tw_862 : (.instanceMethod yX0_matchRows : Cond) ∈ tl_T := tl_tin 862 (by decide +kernel) rfl
theorem tw_863 : (.code yX0_matchRows cX0_matchRows 7 (some .boolean) : Cond) ∈ tl_T := tl_tin 863 (by decide +kernel) rfl
theorem tw_864 : (.methodLink RX0 61 yX3_lengthOf : Cond) ∈ tl_T := tl_tin 864 (by decide +kernel) rfl
theorem tw_865 : (.methodLink RX0 67 yX3_get : Cond) ∈ tl_T := tl_tin 865 (by decide +kernel) rfl
theorem td_X0_demand : yX0_demand.cls = RX0 ∧ yX0_demand.cls ≠ "java/lang/invoke/MethodHandle" ∧ yX0_demand.cls ≠ "java/lang/invoke/VarHandle" ∧ (parseMethodDescriptor yX0_demand.desc).map (fun d => d.parameters.length) = some 2 := by decide +kernel
theorem td_X0_matchPair : yX0_matchPair.cls = RX0 ∧ yX0_matchPair.cls ≠ "java/lang/invoke/MethodHandle" ∧ yX0_matchPair.cls ≠ "java/lang/invoke/VarHandle" ∧ (parseMethodDescriptor yX0_matchPair.desc).map (fun d => d.parameters.length) = some 3 := by decide +kernel
theorem td_X0_matchRows : yX0_matchRows.cls = RX0 ∧ yX0_matchRows.cls ≠ "java/lang/invoke/MethodHandle" ∧ yX0_matchRows.cls ≠ "java/lang/invoke/VarHandle" ∧ (parseMethodDescriptor yX0_matchRows.desc).map (fun d => d.parameters.length) = some 4 := by decide +kernel
theorem td_X1_admit : yX1_admit.cls = RX1 ∧ yX1_admit.cls ≠ "java/lang/invoke/MethodHandle" ∧ yX1_admit.cls ≠ "java/lang/invoke/VarHandle" ∧ (parseMethodDescriptor yX1_admit.desc).map (fun d => d.parameters.length) = some 2 := by decide +kernel
theorem td_X1_had : yX1_had.cls = RX1 ∧ yX1_had.cls ≠ "java/lang/invoke/MethodHandle" ∧ yX1_had.cls ≠ "java/lang/invoke/VarHandle" ∧ (parseMethodDescriptor yX1_had.desc).map (fun d => d.parameters.length) = some 0 := by decide +kernel
theorem td_X1_has : yX1_has.cls = RX1 ∧ yX1_has.cls ≠ "java/lang/invoke/MethodHandle" ∧ yX1_has.cls ≠ "java/lang/invoke/VarHandle" ∧ (parseMethodDescriptor yX1_has.desc).map (fun d => d.parameters.length) = some 0 := by decide +kernel
theorem td_X1_joinHad : yX1_joinHad.cls = RX1 ∧ yX1_joinHad.cls ≠ "java/lang/invoke/MethodHandle" ∧ yX1_joinHad.cls ≠ "java/lang/invoke/VarHandle" ∧ (parseMethodDescriptor yX1_joinHad.desc).map (fun d => d.parameters.length) = some 3 := by decide +kernel
theorem td_X1_joinHas : yX1_joinHas.cls = RX1 ∧ yX1_joinHas.cls ≠ "java/lang/invoke/MethodHandle" ∧ yX1_joinHas.cls ≠ "java/lang/invoke/VarHandle" ∧ (parseMethodDescriptor yX1_joinHas.desc).map (fun d => d.parameters.length) = some 3 := by decide +kernel
theorem td_X1_kindOf : yX1_kindOf.cls = RX1 ∧ yX1_kindOf.cls ≠ "java/lang/invoke/MethodHandle" ∧ yX1_kindOf.cls ≠ "java/lang/invoke/VarHandle" ∧ (parseMethodDescriptor yX1_kindOf.desc).map (fun d => d.parameters.length) = some 1 := by decide +kernel
theorem td_X1_numberOf : yX1_numberOf.cls = RX1 ∧ yX1_numberOf.cls ≠ "java/lang/invoke/MethodHandle" ∧ yX1_numberOf.cls ≠ "java/lang/invoke/VarHandle" ∧ (parseMethodDescriptor yX1_numberOf.desc).map (fun d => d.parameters.length) = some 1 := by decide +kernel
theorem td_X1_remove : yX1_remove.cls = RX1 ∧ yX1_remove.cls ≠ "java/lang/invoke/MethodHandle" ∧ yX1_remove.cls ≠ "java/lang/invoke/VarHandle" ∧ (parseMethodDescriptor yX1_remove.desc).map (fun d => d.parameters.length) = some 1 := by decide +kernel
theorem td_X1_separate : yX1_separate.cls = RX1 ∧ yX1_separate.cls ≠ "java/lang/invoke/MethodHandle" ∧ yX1_separate.cls ≠ "java/lang/invoke/VarHandle" ∧ (parseMethodDescriptor yX1_separate.desc).map (fun d => d.parameters.length) = some 3 := by decide +kernel
theorem td_X1_separateAll : yX1_separateAll.cls = RX1 ∧ yX1_separateAll.cls ≠ "java/lang/invoke/MethodHandle" ∧ yX1_separateAll.cls ≠ "java/lang/invoke/VarHandle" ∧ (parseMethodDescriptor yX1_separateAll.desc).map (fun d => d.parameters.length) = some 2 := by decide +kernel
theorem td_X1_slotBearing : yX1_slotBearing.cls = RX1 ∧ yX1_slotBearing.cls ≠ "java/lang/invoke/MethodHandle" ∧ yX1_slotBearing.cls ≠ "java/lang/invoke/VarHandle" ∧ (parseMethodDescriptor yX1_slotBearing.desc).map (fun d => d.parameters.length) = some 1 := by decide +kernel
theorem td_X2_addThoseWithoutOwner : yX2_addThoseWithoutOwner.cls = RX2 ∧ yX2_addThoseWithoutOwner.cls ≠ "java/lang/invoke/MethodHandle" ∧ yX2_addThoseWithoutOwner.cls ≠ "java/lang/invoke/VarHandle" ∧ (parseMethodDescriptor yX2_addThoseWithoutOwner.desc).map (fun d => d.parameters.length) = some 1 := by decide +kernel
theorem td_X2_areOwnersGone : yX2_areOwnersGone.cls = RX2 ∧ yX2_areOwnersGone.cls ≠ "java/lang/invoke/MethodHandle" ∧ yX2_areOwnersGone.cls ≠ "java/lang/invoke/VarHandle" ∧ (parseMethodDescriptor yX2_areOwnersGone.desc).map (fun d => d.parameters.length) = some 0 := by decide +kernel
theorem td_X2_isBefore : yX2_isBefore.cls = RX2 ∧ yX2_isBefore.cls ≠ "java/lang/invoke/MethodHandle" ∧ yX2_isBefore.cls ≠ "java/lang/invoke/VarHandle" ∧ (parseMethodDescriptor yX2_isBefore.desc).map (fun d => d.parameters.length) = some 3 := by decide +kernel
theorem td_X2_leastBar : yX2_leastBar.cls = RX2 ∧ yX2_leastBar.cls ≠ "java/lang/invoke/MethodHandle" ∧ yX2_leastBar.cls ≠ "java/lang/invoke/VarHandle" ∧ (parseMethodDescriptor yX2_leastBar.desc).map (fun d => d.parameters.length) = some 2 := by decide +kernel
theorem td_X3_addTo : yX3_addTo.cls = RX3 ∧ yX3_addTo.cls ≠ "java/lang/invoke/MethodHandle" ∧ yX3_addTo.cls ≠ "java/lang/invoke/VarHandle" ∧ (parseMethodDescriptor yX3_addTo.desc).map (fun d => d.parameters.length) = some 3 := by decide +kernel
theorem td_X3_append : yX3_append.cls = RX3 ∧ yX3_append.cls ≠ "java/lang/invoke/MethodHandle" ∧ yX3_append.cls ≠ "java/lang/invoke/VarHandle" ∧ (parseMethodDescriptor yX3_append.desc).map (fun d => d.parameters.length) = some 3 := by decide +kernel
theorem td_X3_get : yX3_get.cls = RX3 ∧ yX3_get.cls ≠ "java/lang/invoke/MethodHandle" ∧ yX3_get.cls ≠ "java/lang/invoke/VarHandle" ∧ (parseMethodDescriptor yX3_get.desc).map (fun d => d.parameters.length) = some 3 := by decide +kernel
theorem td_X3_holds : yX3_holds.cls = RX3 ∧ yX3_holds.cls ≠ "java/lang/invoke/MethodHandle" ∧ yX3_holds.cls ≠ "java/lang/invoke/VarHandle" ∧ (parseMethodDescriptor yX3_holds.desc).map (fun d => d.parameters.length) = some 3 := by decide +kernel
theorem td_X3_insert : yX3_insert.cls = RX3 ∧ yX3_insert.cls ≠ "java/lang/invoke/MethodHandle" ∧ yX3_insert.cls ≠ "java/lang/invoke/VarHandle" ∧ (parseMethodDescriptor yX3_insert.desc).map (fun d => d.parameters.length) = some 4 := by decide +kernel
theorem td_X3_isRow : yX3_isRow.cls ≠ "java/lang/invoke/MethodHandle" ∧ yX3_isRow.cls ≠ "java/lang/invoke/VarHandle" ∧ (parseMethodDescriptor yX3_isRow.desc).map (fun d => d.parameters.length) = some 2 := by decide +kernel
theorem td_X3_lengthOf : yX3_lengthOf.cls = RX3 ∧ yX3_lengthOf.cls ≠ "java/lang/invoke/MethodHandle" ∧ yX3_lengthOf.cls ≠ "java/lang/invoke/VarHandle" ∧ (parseMethodDescriptor yX3_lengthOf.desc).map (fun d => d.parameters.length) = some 2 := by decide +kernel
theorem td_X3_read : yX3_read.cls = RX3 ∧ yX3_read.cls ≠ "java/lang/invoke/MethodHandle" ∧ yX3_read.cls ≠ "java/lang/invoke/VarHandle" ∧ (parseMethodDescriptor yX3_read.desc).map (fun d => d.parameters.length) = some 2 := by decide +kernel
theorem td_X3_remove : yX3_remove.cls = RX3 ∧ yX3_remove.cls ≠ "java/lang/invoke/MethodHandle" ∧ yX3_remove.cls ≠ "java/lang/invoke/VarHandle" ∧ (parseMethodDescriptor yX3_remove.desc).map (fun d => d.parameters.length) = some 3 := by decide +kernel
theorem td_X3_rowOf : yX3_rowOf.cls ≠ "java/lang/invoke/MethodHandle" ∧ yX3_rowOf.cls ≠ "java/lang/invoke/VarHandle" ∧ (parseMethodDescriptor yX3_rowOf.desc).map (fun d => d.parameters.length) = some 2 := by decide +kernel
theorem td_X3_write : yX3_write.cls = RX3 ∧ yX3_write.cls ≠ "java/lang/invoke/MethodHandle" ∧ yX3_write.cls ≠ "java/lang/invoke/VarHandle" ∧ (parseMethodDescriptor yX3_write.desc).map (fun d => d.parameters.length) = some 3 := by decide +kernel
theorem td_X4_add : yX4_add.cls = RX4 ∧ yX4_add.cls ≠ "java/lang/invoke/MethodHandle" ∧ yX4_add.cls ≠ "java/lang/invoke/VarHandle" ∧ (parseMethodDescriptor yX4_add.desc).map (fun d => d.parameters.length) = some 1 := by decide +kernel
theorem td_X4_clear : yX4_clear.cls = RX4 ∧ yX4_clear.cls ≠ "java/lang/invoke/MethodHandle" ∧ yX4_clear.cls ≠ "java/lang/invoke/VarHandle" ∧ (parseMethodDescriptor yX4_clear.desc).map (fun d => d.parameters.length) = some 0 := by decide +kernel
theorem td_X4_get : yX4_get.cls = RX4 ∧ yX4_get.cls ≠ "java/lang/invoke/MethodHandle" ∧ yX4_get.cls ≠ "java/lang/invoke/VarHandle" ∧ (parseMethodDescriptor yX4_get.desc).map (fun d => d.parameters.length) = some 1 := by decide +kernel
theorem td_X4_holds : yX4_holds.cls = RX4 ∧ yX4_holds.cls ≠ "java/lang/invoke/MethodHandle" ∧ yX4_holds.cls ≠ "java/lang/invoke/VarHandle" ∧ (parseMethodDescriptor yX4_holds.desc).map (fun d => d.parameters.length) = some 1 := by decide +kernel
theorem td_X4_isSlot : yX4_isSlot.cls ≠ "java/lang/invoke/MethodHandle" ∧ yX4_isSlot.cls ≠ "java/lang/invoke/VarHandle" ∧ (parseMethodDescriptor yX4_isSlot.desc).map (fun d => d.parameters.length) = some 1 := by decide +kernel
theorem td_X4_length : yX4_length.cls = RX4 ∧ yX4_length.cls ≠ "java/lang/invoke/MethodHandle" ∧ yX4_length.cls ≠ "java/lang/invoke/VarHandle" ∧ (parseMethodDescriptor yX4_length.desc).map (fun d => d.parameters.length) = some 0 := by decide +kernel
theorem td_X5_hasForm : yX5_hasForm.cls = RX5 ∧ yX5_hasForm.cls ≠ "java/lang/invoke/MethodHandle" ∧ yX5_hasForm.cls ≠ "java/lang/invoke/VarHandle" ∧ (parseMethodDescriptor yX5_hasForm.desc).map (fun d => d.parameters.length) = some 2 := by decide +kernel
theorem td_X5_hasRule : yX5_hasRule.cls = RX5 ∧ yX5_hasRule.cls ≠ "java/lang/invoke/MethodHandle" ∧ yX5_hasRule.cls ≠ "java/lang/invoke/VarHandle" ∧ (parseMethodDescriptor yX5_hasRule.desc).map (fun d => d.parameters.length) = some 2 := by decide +kernel
theorem td_X5_howMany : yX5_howMany.cls = RX5 ∧ yX5_howMany.cls ≠ "java/lang/invoke/MethodHandle" ∧ yX5_howMany.cls ≠ "java/lang/invoke/VarHandle" ∧ (parseMethodDescriptor yX5_howMany.desc).map (fun d => d.parameters.length) = some 0 := by decide +kernel
theorem td_X5_knows : yX5_knows.cls = RX5 ∧ yX5_knows.cls ≠ "java/lang/invoke/MethodHandle" ∧ yX5_knows.cls ≠ "java/lang/invoke/VarHandle" ∧ (parseMethodDescriptor yX5_knows.desc).map (fun d => d.parameters.length) = some 1 := by decide +kernel
theorem td_X6_add : yX6_add.cls = RX6 ∧ yX6_add.cls ≠ "java/lang/invoke/MethodHandle" ∧ yX6_add.cls ≠ "java/lang/invoke/VarHandle" ∧ (parseMethodDescriptor yX6_add.desc).map (fun d => d.parameters.length) = some 1 := by decide +kernel
theorem td_X6_clear : yX6_clear.cls = RX6 ∧ yX6_clear.cls ≠ "java/lang/invoke/MethodHandle" ∧ yX6_clear.cls ≠ "java/lang/invoke/VarHandle" ∧ (parseMethodDescriptor yX6_clear.desc).map (fun d => d.parameters.length) = some 0 := by decide +kernel
theorem td_X7_copyHad : yX7_copyHad.cls = RX7 ∧ yX7_copyHad.cls ≠ "java/lang/invoke/MethodHandle" ∧ yX7_copyHad.cls ≠ "java/lang/invoke/VarHandle" ∧ (parseMethodDescriptor yX7_copyHad.desc).map (fun d => d.parameters.length) = some 3 := by decide +kernel
theorem td_X7_copyHas : yX7_copyHas.cls = RX7 ∧ yX7_copyHas.cls ≠ "java/lang/invoke/MethodHandle" ∧ yX7_copyHas.cls ≠ "java/lang/invoke/VarHandle" ∧ (parseMethodDescriptor yX7_copyHas.desc).map (fun d => d.parameters.length) = some 3 := by decide +kernel
theorem td_X7_howManyOldHave : yX7_howManyOldHave.cls = RX7 ∧ yX7_howManyOldHave.cls ≠ "java/lang/invoke/MethodHandle" ∧ yX7_howManyOldHave.cls ≠ "java/lang/invoke/VarHandle" ∧ (parseMethodDescriptor yX7_howManyOldHave.desc).map (fun d => d.parameters.length) = some 3 := by decide +kernel
theorem td_X7_keepsOutsiders : yX7_keepsOutsiders.cls = RX7 ∧ yX7_keepsOutsiders.cls ≠ "java/lang/invoke/MethodHandle" ∧ yX7_keepsOutsiders.cls ≠ "java/lang/invoke/VarHandle" ∧ (parseMethodDescriptor yX7_keepsOutsiders.desc).map (fun d => d.parameters.length) = some 1 := by decide +kernel
theorem td_X7_leastMissing : yX7_leastMissing.cls = RX7 ∧ yX7_leastMissing.cls ≠ "java/lang/invoke/MethodHandle" ∧ yX7_leastMissing.cls ≠ "java/lang/invoke/VarHandle" ∧ (parseMethodDescriptor yX7_leastMissing.desc).map (fun d => d.parameters.length) = some 2 := by decide +kernel
theorem td_X7_standIn : yX7_standIn.cls = RX7 ∧ yX7_standIn.cls ≠ "java/lang/invoke/MethodHandle" ∧ yX7_standIn.cls ≠ "java/lang/invoke/VarHandle" ∧ (parseMethodDescriptor yX7_standIn.desc).map (fun d => d.parameters.length) = some 2 := by decide +kernel
theorem td_X7_twinOf : yX7_twinOf.cls = RX7 ∧ yX7_twinOf.cls ≠ "java/lang/invoke/MethodHandle" ∧ yX7_twinOf.cls ≠ "java/lang/invoke/VarHandle" ∧ (parseMethodDescriptor yX7_twinOf.desc).map (fun d => d.parameters.length) = some 1 := by decide +kernel
theorem td_X8_addOwning : yX8_addOwning.cls = RX8 ∧ yX8_addOwning.cls ≠ "java/lang/invoke/MethodHandle" ∧ yX8_addOwning.cls ≠ "java/lang/invoke/VarHandle" ∧ (parseMethodDescriptor yX8_addOwning.desc).map (fun d => d.parameters.length) = some 3 := by decide +kernel
theorem td_X8_leastStep : yX8_leastStep.cls = RX8 ∧ yX8_leastStep.cls ≠ "java/lang/invoke/MethodHandle" ∧ yX8_leastStep.cls ≠ "java/lang/invoke/VarHandle" ∧ (parseMethodDescriptor yX8_leastStep.desc).map (fun d => d.parameters.length) = some 3 := by decide +kernel
theorem td_X8_noteSteps : yX8_noteSteps.cls = RX8 ∧ yX8_noteSteps.cls ≠ "java/lang/invoke/MethodHandle" ∧ yX8_noteSteps.cls ≠ "java/lang/invoke/VarHandle" ∧ (parseMethodDescriptor yX8_noteSteps.desc).map (fun d => d.parameters.length) = some 2 := by decide +kernel
theorem td_X8_spread : yX8_spread.cls = RX8 ∧ yX8_spread.cls ≠ "java/lang/invoke/MethodHandle" ∧ yX8_spread.cls ≠ "java/lang/invoke/VarHandle" ∧ (parseMethodDescriptor yX8_spread.desc).map (fun d => d.parameters.length) = some 2 := by decide +kernel
theorem td_X8_stepsTo : yX8_stepsTo.cls = RX8 ∧ yX8_stepsTo.cls ≠ "java/lang/invoke/MethodHandle" ∧ yX8_stepsTo.cls ≠ "java/lang/invoke/VarHandle" ∧ (parseMethodDescriptor yX8_stepsTo.desc).map (fun d => d.parameters.length) = some 1 := by decide +kernel
theorem tg_X0_29 : GoodIn tl_T (wsV RX0 29 RX0 yX0_demand (tl_w yX0_demand cX0_demand 5 none)) := tl_gV tw_847 tw_849 tw_21 tw_67 tw_850
theorem tg_X0_33 : GoodIn tl_T (wsV RX0 33 RX0 yX0_matchPair (tl_w yX0_matchPair cX0_matchPair 5 (some .boolean))) := tl_gV tw_852 tw_854 tw_22 tw_67 tw_855
theorem tg_X0_37 : GoodIn tl_T (wsV RX0 37 RX1 yX1_kindOf (tl_w yX1_kindOf cX1_kindOf 2 (some .int))) := tl_gV tw_856 tw_481 tw_482 tw_68 tw_483
theorem tg_X0_43 : GoodIn tl_T (wsV RX0 43 RX5 yX5_howMany (tl_w yX5_howMany cX5_howMany 1 (some .int))) := tl_gV tw_857 tw_383 tw_384 tw_61 tw_385
theorem tg_X0_49 : GoodIn tl_T (wsV RX0 49 RX5 yX5_hasRule (tl_w yX5_hasRule cX5_hasRule 3 (some .boolean))) := tl_gV tw_858 tw_570 tw_571 tw_61 tw_572
theorem tg_X0_53 : GoodIn tl_T (wsV RX0 53 RX1 yX1_has (tl_w yX1_has cX1_has 1 (some (.object "TwinLinks$Rows")))) := tl_gV tw_859 tw_535 tw_536 tw_68 tw_537
theorem tg_X0_57 : GoodIn tl_T (wsV RX0 57 RX0 yX0_matchRows (tl_w yX0_matchRows cX0_matchRows 7 (some .boolean))) := tl_gV tw_860 tw_862 tw_23 tw_67 tw_863
theorem tg_X0_61 : GoodIn tl_T (wsV RX0 61 RX3 yX3_lengthOf (tl_w yX3_lengthOf cX3_lengthOf 3 (some .int))) := tl_gV tw_864 tw_516 tw_517 tw_69 tw_518
theorem tg_X0_67 : GoodIn tl_T (wsV RX0 67 RX3 yX3_get (tl_w yX3_get cX3_get 4 (some .int))) := tl_gV tw_865 tw_670 tw_671 tw_69 tw_672
theorem tg_X0_71 : GoodIn tl_T (va_wsS RX0 71 yX4_isSlot (tl_w yX4_isSlot cX4_isSlot 1 (some .boolean))) := tl_gS tw_851 tw_485 tw_64 tw_486
theorem tg_X1_35 : GoodIn tl_T (wsV RX1 35 RX1 yX1_slotBearing (tl_w yX1_slotBearing cX1_slotBearing 3 (some .int))) := tl_gV tw_422 tw_424 tw_1 tw_68 tw_425
theorem tg_X1_39 : GoodIn tl_T (va_wsS RX1 39 yX4_isSlot (tl_w yX4_isSlot cX4_isSlot 1 (some .boolean))) := tl_gS tw_484 tw_485 tw_64 tw_486
theorem tg_X1_45 : GoodIn tl_T (wsV RX1 45 RX1 yX1_numberOf (tl_w yX1_numberOf cX1_numberOf 2 (some .int))) := tl_gV tw_753 tw_631 tw_632 tw_68 tw_633
theorem tg_X1_48 : GoodIn tl_T (wsV RX1 48 RX1 yX1_separateAll (tl_w yX1_separateAll cX1_separateAll 4 none)) := tl_gV tw_754 tw_756 tw_14 tw_68 tw_757
theorem tg_X1_52 : GoodIn tl_T (wsV RX1 52 RX3 yX3_holds (tl_w yX3_holds cX3_holds 6 (some .boolean))) := tl_gV tw_511 tw_512 tw_513 tw_69 tw_514
theorem tg_X1_56 : GoodIn tl_T (wsV RX1 56 RX3 yX3_insert (tl_w yX3_insert cX3_insert 8 none)) := tl_gV tw_682 tw_565 tw_566 tw_69 tw_567
theorem tg_X1_60 : GoodIn tl_T (wsV RX1 60 RX3 yX3_append (tl_w yX3_append cX3_append 4 none)) := tl_gV tw_683 tw_684 tw_685 tw_69 tw_686
theorem tg_X1_64 : GoodIn tl_T (wsV RX1 64 RX3 yX3_remove (tl_w yX3_remove cX3_remove 9 (some .boolean))) := tl_gV tw_677 tw_556 tw_557 tw_69 tw_558
theorem tg_X1_77 : GoodIn tl_T (wsV RX1 77 RX3 yX3_lengthOf (tl_w yX3_lengthOf cX3_lengthOf 3 (some .int))) := tl_gV tw_758 tw_516 tw_517 tw_69 tw_518
theorem tg_X1_81 : GoodIn tl_T (wsV RX1 81 RX3 yX3_get (tl_w yX3_get cX3_get 4 (some .int))) := tl_gV tw_759 tw_670 tw_671 tw_69 tw_672
theorem tg_X1_85 : GoodIn tl_T (wsV RX1 85 RX1 yX1_separate (tl_w yX1_separate cX1_separate 4 (some .boolean))) := tl_gV tw_760 tw_674 tw_675 tw_68 tw_676
theorem tg_X2_100 : GoodIn tl_T (wsV RX2 100 RX1 yX1_remove (tl_w yX1_remove cX1_remove 3 none)) := tl_gV tw_749 tw_750 tw_751 tw_68 tw_752
theorem tg_X2_103 : GoodIn tl_T (wsV RX2 103 RX1 yX1_had (tl_w yX1_had cX1_had 1 (some (.object "TwinLinks$Rows")))) := tl_gV tw_716 tw_578 tw_579 tw_68 tw_580
theorem tg_X2_106 : GoodIn tl_T (wsV RX2 106 RX2 yX2_areOwnersGone (tl_w yX2_areOwnersGone cX2_areOwnersGone 2 (some .boolean))) := tl_gV tw_717 tw_719 tw_12 tw_65 tw_720
theorem tg_X2_110 : GoodIn tl_T (wsV RX2 110 RX8 yX8_stepsTo (tl_w yX8_stepsTo cX8_stepsTo 2 (some .int))) := tl_gV tw_740 tw_619 tw_620 tw_63 tw_621
theorem tg_X2_32 : GoodIn tl_T (wsV RX2 32 RX4 yX4_clear (tl_w yX4_clear cX4_clear 2 none)) := tl_gV tw_706 tw_586 tw_587 tw_64 tw_588
theorem tg_X2_35 : GoodIn tl_T (wsV RX2 35 RX4 yX4_add (tl_w yX4_add cX4_add 2 none)) := tl_gV tw_707 tw_590 tw_591 tw_64 tw_592
theorem tg_X2_39 : GoodIn tl_T (wsV RX2 39 RX4 yX4_length (tl_w yX4_length cX4_length 1 (some .int))) := tl_gV tw_708 tw_599 tw_600 tw_64 tw_601
theorem tg_X2_43 : GoodIn tl_T (wsV RX2 43 RX1 yX1_has (tl_w yX1_has cX1_has 1 (some (.object "TwinLinks$Rows")))) := tl_gV tw_709 tw_535 tw_536 tw_68 tw_537
theorem tg_X2_49 : GoodIn tl_T (wsV RX2 49 RX4 yX4_get (tl_w yX4_get cX4_get 2 (some .int))) := tl_gV tw_710 tw_603 tw_604 tw_64 tw_605
theorem tg_X2_53 : GoodIn tl_T (wsV RX2 53 RX8 yX8_addOwning (tl_w yX8_addOwning cX8_addOwning 5 none)) := tl_gV tw_711 tw_608 tw_609 tw_63 tw_610
theorem tg_X2_59 : GoodIn tl_T (wsV RX2 59 RX2 yX2_addThoseWithoutOwner (tl_w yX2_addThoseWithoutOwner cX2_addThoseWithoutOwner 3 none)) := tl_gV tw_712 tw_714 tw_11 tw_65 tw_715
theorem tg_X2_63 : GoodIn tl_T (wsV RX2 63 RX8 yX8_spread (tl_w yX8_spread cX8_spread 6 (some (.object "TwinLinks$Slots")))) := tl_gV tw_726 tw_582 tw_583 tw_63 tw_584
theorem tg_X2_67 : GoodIn tl_T (wsV RX2 67 RX4 yX4_holds (tl_w yX4_holds cX4_holds 2 (some .boolean))) := tl_gV tw_721 tw_623 tw_624 tw_64 tw_625
theorem tg_X2_71 : GoodIn tl_T (wsV RX2 71 RX2 yX2_leastBar (tl_w yX2_leastBar cX2_leastBar 9 (some .int))) := tl_gV tw_727 tw_728 tw_729 tw_65 tw_730
theorem tg_X2_75 : GoodIn tl_T (wsV RX2 75 RX2 yX2_isBefore (tl_w yX2_isBefore cX2_isBefore 6 (some .boolean))) := tl_gV tw_736 tw_738 tw_13 tw_65 tw_739
theorem tg_X2_79 : GoodIn tl_T (wsV RX2 79 RX5 yX5_howMany (tl_w yX5_howMany cX5_howMany 1 (some .int))) := tl_gV tw_731 tw_383 tw_384 tw_61 tw_385
theorem tg_X2_84 : GoodIn tl_T (wsV RX2 84 RX5 yX5_hasRule (tl_w yX5_hasRule cX5_hasRule 3 (some .boolean))) := tl_gV tw_732 tw_570 tw_571 tw_61 tw_572
theorem tg_X2_88 : GoodIn tl_T (wsV RX2 88 RX3 yX3_lengthOf (tl_w yX3_lengthOf cX3_lengthOf 3 (some .int))) := tl_gV tw_733 tw_516 tw_517 tw_69 tw_518
theorem tg_X2_94 : GoodIn tl_T (wsV RX2 94 RX3 yX3_get (tl_w yX3_get cX3_get 4 (some .int))) := tl_gV tw_734 tw_670 tw_671 tw_69 tw_672
theorem tg_X2_97 : GoodIn tl_T (wsV RX2 97 RX1 yX1_numberOf (tl_w yX1_numberOf cX1_numberOf 2 (some .int))) := tl_gV tw_735 tw_631 tw_632 tw_68 tw_633
theorem tg_X3_19 : GoodIn tl_T (va_wsS RX3 19 yX3_isRow (tl_w yX3_isRow cX3_isRow 2 (some .boolean))) := tl_gS tw_519 tw_520 tw_69 tw_521
theorem tg_X3_23 : GoodIn tl_T (va_wsS RX3 23 yX3_rowOf (tl_w yX3_rowOf cX3_rowOf 2 (some .int))) := tl_gS tw_522 tw_523 tw_69 tw_524
theorem tg_X3_27 : GoodIn tl_T (wsV RX3 27 RX3 yX3_lengthOf (tl_w yX3_lengthOf cX3_lengthOf 3 (some .int))) := tl_gV tw_515 tw_516 tw_517 tw_69 tw_518
theorem tg_X3_30 : GoodIn tl_T (wsV RX3 30 RX3 yX3_read (tl_w yX3_read cX3_read 6 (some .int))) := tl_gV tw_525 tw_527 tw_5 tw_69 tw_528
theorem tg_X3_33 : GoodIn tl_T (wsV RX3 33 RX4 yX4_add (tl_w yX4_add cX4_add 2 none)) := tl_gV tw_617 tw_590 tw_591 tw_64 tw_592
theorem tg_X3_39 : GoodIn tl_T (va_wsS RX3 39 yX4_isSlot (tl_w yX4_isSlot cX4_isSlot 1 (some .boolean))) := tl_gS tw_568 tw_485 tw_64 tw_486
theorem tg_X3_43 : GoodIn tl_T (wsV RX3 43 RX3 yX3_write (tl_w yX3_write cX3_write 8 none)) := tl_gV tw_559 tw_561 tw_7 tw_69 tw_562
theorem tg_X3_47 : GoodIn tl_T (wsV RX3 47 RX3 yX3_insert (tl_w yX3_insert cX3_insert 8 none)) := tl_gV tw_687 tw_565 tw_566 tw_69 tw_567
theorem tg_X4_23 : GoodIn tl_T (va_wsS RX4 23 yX4_isSlot (tl_w yX4_isSlot cX4_isSlot 1 (some .boolean))) := tl_gS tw_593 tw_485 tw_64 tw_486
theorem tg_X5_28 : GoodIn tl_T (wsV RX5 28 RX5 yX5_knows (tl_w yX5_knows cX5_knows 2 (some .boolean))) := tl_gV tw_475 tw_442 tw_443 tw_61 tw_444
theorem tg_X7_102 : GoodIn tl_T (wsV RX7 102 RX7 yX7_copyHad (tl_w yX7_copyHad cX7_copyHad 8 none)) := tl_gV tw_827 tw_829 tw_20 tw_66 tw_830
theorem tg_X7_105 : GoodIn tl_T (wsV RX7 105 RX1 yX1_numberOf (tl_w yX1_numberOf cX1_numberOf 2 (some .int))) := tl_gV tw_782 tw_631 tw_632 tw_68 tw_633
theorem tg_X7_108 : GoodIn tl_T (wsV RX7 108 RX5 yX5_hasForm (tl_w yX5_hasForm cX5_hasForm 3 (some .boolean))) := tl_gV tw_794 tw_664 tw_665 tw_61 tw_666
theorem tg_X7_112 : GoodIn tl_T (wsV RX7 112 RX5 yX5_hasRule (tl_w yX5_hasRule cX5_hasRule 3 (some .boolean))) := tl_gV tw_795 tw_570 tw_571 tw_61 tw_572
theorem tg_X7_115 : GoodIn tl_T (wsV RX7 115 RX3 yX3_get (tl_w yX3_get cX3_get 4 (some .int))) := tl_gV tw_802 tw_670 tw_671 tw_69 tw_672
theorem tg_X7_118 : GoodIn tl_T (wsV RX7 118 RX7 yX7_twinOf (tl_w yX7_twinOf cX7_twinOf 2 (some .int))) := tl_gV tw_819 tw_820 tw_821 tw_66 tw_822
theorem tg_X7_121 : GoodIn tl_T (wsV RX7 121 RX7 yX7_standIn (tl_w yX7_standIn cX7_standIn 3 (some .int))) := tl_gV tw_815 tw_817 tw_19 tw_66 tw_818
theorem tg_X7_124 : GoodIn tl_T (wsV RX7 124 RX1 yX1_joinHas (tl_w yX1_joinHas cX1_joinHas 4 none)) := tl_gV tw_823 tw_824 tw_825 tw_68 tw_826
theorem tg_X7_128 : GoodIn tl_T (wsV RX7 128 RX1 yX1_joinHad (tl_w yX1_joinHad cX1_joinHad 4 none)) := tl_gV tw_831 tw_832 tw_833 tw_68 tw_834
theorem tg_X7_30 : GoodIn tl_T (wsV RX7 30 RX1 yX1_has (tl_w yX1_has cX1_has 1 (some (.object "TwinLinks$Rows")))) := tl_gV tw_772 tw_535 tw_536 tw_68 tw_537
theorem tg_X7_36 : GoodIn tl_T (wsV RX7 36 RX8 yX8_spread (tl_w yX8_spread cX8_spread 6 (some (.object "TwinLinks$Slots")))) := tl_gV tw_773 tw_582 tw_583 tw_63 tw_584
theorem tg_X7_42 : GoodIn tl_T (wsV RX7 42 RX4 yX4_clear (tl_w yX4_clear cX4_clear 2 none)) := tl_gV tw_774 tw_586 tw_587 tw_64 tw_588
theorem tg_X7_45 : GoodIn tl_T (wsV RX7 45 RX4 yX4_length (tl_w yX4_length cX4_length 1 (some .int))) := tl_gV tw_775 tw_599 tw_600 tw_64 tw_601
theorem tg_X7_49 : GoodIn tl_T (wsV RX7 49 RX7 yX7_leastMissing (tl_w yX7_leastMissing cX7_leastMissing 7 (some .int))) := tl_gV tw_776 tw_778 tw_15 tw_66 tw_779
theorem tg_X7_53 : GoodIn tl_T (wsV RX7 53 RX4 yX4_add (tl_w yX4_add cX4_add 2 none)) := tl_gV tw_783 tw_590 tw_591 tw_64 tw_592
theorem tg_X7_60 : GoodIn tl_T (wsV RX7 60 RX5 yX5_howMany (tl_w yX5_howMany cX5_howMany 1 (some .int))) := tl_gV tw_789 tw_383 tw_384 tw_61 tw_385
theorem tg_X7_65 : GoodIn tl_T (wsV RX7 65 RX7 yX7_keepsOutsiders (tl_w yX7_keepsOutsiders cX7_keepsOutsiders 2 (some .boolean))) := tl_gV tw_790 tw_792 tw_16 tw_66 tw_793
theorem tg_X7_69 : GoodIn tl_T (wsV RX7 69 RX4 yX4_holds (tl_w yX4_holds cX4_holds 2 (some .boolean))) := tl_gV tw_781 tw_623 tw_624 tw_64 tw_625
theorem tg_X7_72 : GoodIn tl_T (wsV RX7 72 RX7 yX7_howManyOldHave (tl_w yX7_howManyOldHave cX7_howManyOldHave 6 (some .int))) := tl_gV tw_796 tw_798 tw_17 tw_66 tw_799
theorem tg_X7_76 : GoodIn tl_T (wsV RX7 76 RX1 yX1_had (tl_w yX1_had cX1_had 1 (some (.object "TwinLinks$Rows")))) := tl_gV tw_800 tw_578 tw_579 tw_68 tw_580
theorem tg_X7_79 : GoodIn tl_T (wsV RX7 79 RX3 yX3_lengthOf (tl_w yX3_lengthOf cX3_lengthOf 3 (some .int))) := tl_gV tw_801 tw_516 tw_517 tw_69 tw_518
theorem tg_X7_85 : GoodIn tl_T (wsV RX7 85 RX4 yX4_get (tl_w yX4_get cX4_get 2 (some .int))) := tl_gV tw_780 tw_603 tw_604 tw_64 tw_605
theorem tg_X7_89 : GoodIn tl_T (va_wsS RX7 89 yX4_isSlot (tl_w yX4_isSlot cX4_isSlot 1 (some .boolean))) := tl_gS tw_808 tw_485 tw_64 tw_486
theorem tg_X7_92 : GoodIn tl_T (wsV RX7 92 RX1 yX1_kindOf (tl_w yX1_kindOf cX1_kindOf 2 (some .int))) := tl_gV tw_809 tw_481 tw_482 tw_68 tw_483
theorem tg_X7_95 : GoodIn tl_T (wsV RX7 95 RX1 yX1_admit (tl_w yX1_admit cX1_admit 4 (some .int))) := tl_gV tw_810 tw_419 tw_420 tw_68 tw_421
theorem tg_X7_98 : GoodIn tl_T (wsV RX7 98 RX7 yX7_copyHas (tl_w yX7_copyHas cX7_copyHas 7 none)) := tl_gV tw_811 tw_813 tw_18 tw_66 tw_814
theorem tg_X8_29 : GoodIn tl_T (wsV RX8 29 RX5 yX5_howMany (tl_w yX5_howMany cX5_howMany 1 (some .int))) := tl_gV tw_611 tw_383 tw_384 tw_61 tw_385
theorem tg_X8_35 : GoodIn tl_T (wsV RX8 35 RX5 yX5_hasRule (tl_w yX5_hasRule cX5_hasRule 3 (some .boolean))) := tl_gV tw_612 tw_570 tw_571 tw_61 tw_572
theorem tg_X8_39 : GoodIn tl_T (wsV RX8 39 RX3 yX3_addTo (tl_w yX3_addTo cX3_addTo 6 none)) := tl_gV tw_613 tw_614 tw_615 tw_69 tw_616
theorem tg_X8_45 : GoodIn tl_T (wsV RX8 45 RX4 yX4_clear (tl_w yX4_clear cX4_clear 2 none)) := tl_gV tw_585 tw_586 tw_587 tw_64 tw_588
theorem tg_X8_48 : GoodIn tl_T (wsV RX8 48 RX8 yX8_addOwning (tl_w yX8_addOwning cX8_addOwning 5 none)) := tl_gV tw_607 tw_608 tw_609 tw_63 tw_610
theorem tg_X8_52 : GoodIn tl_T (wsV RX8 52 RX4 yX4_length (tl_w yX4_length cX4_length 1 (some .int))) := tl_gV tw_598 tw_599 tw_600 tw_64 tw_601
theorem tg_X8_55 : GoodIn tl_T (wsV RX8 55 RX1 yX1_has (tl_w yX1_has cX1_has 1 (some (.object "TwinLinks$Rows")))) := tl_gV tw_642 tw_535 tw_536 tw_68 tw_537
theorem tg_X8_61 : GoodIn tl_T (wsV RX8 61 RX1 yX1_had (tl_w yX1_had cX1_had 1 (some (.object "TwinLinks$Rows")))) := tl_gV tw_577 tw_578 tw_579 tw_68 tw_580
theorem tg_X8_64 : GoodIn tl_T (wsV RX8 64 RX8 yX8_spread (tl_w yX8_spread cX8_spread 6 (some (.object "TwinLinks$Slots")))) := tl_gV tw_581 tw_582 tw_583 tw_63 tw_584
theorem tg_X8_68 : GoodIn tl_T (wsV RX8 68 RX4 yX4_add (tl_w yX4_add cX4_add 2 none)) := tl_gV tw_589 tw_590 tw_591 tw_64 tw_592
theorem tg_X8_72 : GoodIn tl_T (wsV RX8 72 RX4 yX4_get (tl_w yX4_get cX4_get 2 (some .int))) := tl_gV tw_602 tw_603 tw_604 tw_64 tw_605
theorem tg_X8_76 : GoodIn tl_T (wsV RX8 76 RX8 yX8_noteSteps (tl_w yX8_noteSteps cX8_noteSteps 5 none)) := tl_gV tw_594 tw_596 tw_8 tw_63 tw_597
theorem tg_X8_80 : GoodIn tl_T (wsV RX8 80 RX8 yX8_stepsTo (tl_w yX8_stepsTo cX8_stepsTo 2 (some .int))) := tl_gV tw_618 tw_619 tw_620 tw_63 tw_621
theorem tg_X8_83 : GoodIn tl_T (wsV RX8 83 RX4 yX4_holds (tl_w yX4_holds cX4_holds 2 (some .boolean))) := tl_gV tw_622 tw_623 tw_624 tw_64 tw_625
theorem tg_X8_87 : GoodIn tl_T (wsV RX8 87 RX6 yX6_clear (tl_w yX6_clear cX6_clear 1 none)) := tl_gV tw_626 tw_627 tw_628 tw_62 tw_629
theorem tg_X8_90 : GoodIn tl_T (wsV RX8 90 RX1 yX1_numberOf (tl_w yX1_numberOf cX1_numberOf 2 (some .int))) := tl_gV tw_630 tw_631 tw_632 tw_68 tw_633
theorem tg_X8_93 : GoodIn tl_T (wsV RX8 93 RX6 yX6_add (tl_w yX6_add cX6_add 2 none)) := tl_gV tw_634 tw_635 tw_636 tw_62 tw_637
theorem tg_X8_94 : GoodIn tl_T (wsV RX8 94 RX8 yX8_leastStep (tl_w yX8_leastStep cX8_leastStep 8 (some .int))) := tl_gV tw_638 tw_640 tw_9 tw_63 tw_641
theorem tg_X8_98 : GoodIn tl_T (va_wsS RX8 98 yX4_isSlot (tl_w yX4_isSlot cX4_isSlot 1 (some .boolean))) := tl_gS tw_606 tw_485 tw_64 tw_486
theorem in_X0 : ∀ w ∈ wsX00, w ∈ tl_T := by decide +kernel
theorem in_X1 : ∀ w ∈ wsX10, w ∈ tl_T := by decide +kernel
theorem in_X2 : ∀ w ∈ wsX20, w ∈ tl_T := by decide +kernel
theorem in_X3 : ∀ w ∈ wsX30, w ∈ tl_T := by decide +kernel
theorem in_X4 : ∀ w ∈ wsX40, w ∈ tl_T := by decide +kernel
theorem in_X5 : ∀ w ∈ wsX50, w ∈ tl_T := by decide +kernel
theorem in_X6 : ∀ w ∈ wsX60, w ∈ tl_T := by decide +kernel
theorem in_X7 : ∀ w ∈ wsX70, w ∈ tl_T := by decide +kernel
theorem in_X8 : ∀ w ∈ wsX80, w ∈ tl_T := by decide +kernel
end
section
theorem dX0_init_0 : decode cX0_init 0 = .ok (.aload_n 0, 1) := by decide +kernel
theorem dX0_init_1 : decode cX0_init 1 = .ok (.invokespecial 3, 3) := by decide +kernel
theorem dX0_init_4 : decode cX0_init 4 = .ok (.aload_n 0, 1) := by decide +kernel
theorem dX0_init_5 : decode cX0_init 5 = .ok (.aload_n 1, 1) := by decide +kernel
theorem dX0_init_6 : decode cX0_init 6 = .ok (.putfield 9, 3) := by decide +kernel
theorem dX0_init_9 : decode cX0_init 9 = .ok (.aload_n 0, 1) := by decide +kernel
theorem dX0_init_10 : decode cX0_init 10 = .ok (.bipush 100, 2) := by decide +kernel
theorem dX0_init_12 : decode cX0_init 12 = .ok (.newarray .int, 2) := by decide +kernel
theorem dX0_init_14 : decode cX0_init 14 = .ok (.putfield 15, 3) := by decide +kernel
theorem dX0_init_17 : decode cX0_init 17 = .ok (.aload_n 0, 1) := by decide +kernel
theorem dX0_init_18 : decode cX0_init 18 = .ok (.bipush 100, 2) := by decide +kernel
theorem dX0_init_20 : decode cX0_init 20 = .ok (.newarray .int, 2) := by decide +kernel
theorem dX0_init_22 : decode cX0_init 22 = .ok (.putfield 19, 3) := by decide +kernel
theorem dX0_init_25 : decode cX0_init 25 = .ok (.aload_n 0, 1) := by decide +kernel
theorem dX0_init_26 : decode cX0_init 26 = .ok (.bipush 100, 2) := by decide +kernel
theorem dX0_init_28 : decode cX0_init 28 = .ok (.newarray .int, 2) := by decide +kernel
theorem dX0_init_30 : decode cX0_init 30 = .ok (.putfield 22, 3) := by decide +kernel
theorem dX0_init_33 : decode cX0_init 33 = .ok (.return_, 1) := by decide +kernel
theorem dX0_match_0 : decode cX0_match 0 = .ok (.aload_n 0, 1) := by decide +kernel
theorem dX0_match_1 : decode cX0_match 1 = .ok (.iconst 0, 1) := by decide +kernel
theorem dX0_match_2 : decode cX0_match 2 = .ok (.putfield 25, 3) := by decide +kernel
theorem dX0_match_5 : decode cX0_match 5 = .ok (.iconst 0, 1) := by decide +kernel
theorem dX0_match_6 : decode cX0_match 6 = .ok (.istore 4, 2) := by decide +kernel
theorem dX0_match_8 : decode cX0_match 8 = .ok (.iload 4, 2) := by decide +kernel
theorem dX0_match_10 : decode cX0_match 10 = .ok (.bipush 100, 2) := by decide +kernel
theorem dX0_match_12 : decode cX0_match 12 = .ok (.if_icmp .ge 18, 3) := by decide +kernel
theorem dX0_match_15 : decode cX0_match 15 = .ok (.aload_n 0, 1) := by decide +kernel
theorem dX0_match_16 : decode cX0_match 16 = .ok (.getfield 15, 3) := by decide +kernel
theorem dX0_match_19 : decode cX0_match 19 = .ok (.iload 4, 2) := by decide +kernel
theorem dX0_match_21 : decode cX0_match 21 = .ok (.iload 4, 2) := by decide +kernel
theorem dX0_match_23 : decode cX0_match 23 = .ok (.iastore, 1) := by decide +kernel
theorem dX0_match_24 : decode cX0_match 24 = .ok (.iinc 4 1, 3) := by decide +kernel
theorem dX0_match_27 : decode cX0_match 27 = .ok (.goto (-19), 3) := by decide +kernel
theorem dX0_match_30 : decode cX0_match 30 = .ok (.aload_n 0, 1) := by decide +kernel
theorem dX0_match_31 : decode cX0_match 31 = .ok (.iload_n 2, 1) := by decide +kernel
theorem dX0_match_32 : decode cX0_match 32 = .ok (.iload_n 3, 1) := by decide +kernel
theorem dX0_match_33 : decode cX0_match 33 = .ok (.invokevirtual 29, 3) := by decide +kernel
theorem dX0_match_36 : decode cX0_match 36 = .ok (.iconst 0, 1) := by decide +kernel
theorem dX0_match_37 : decode cX0_match 37 = .ok (.istore 4, 2) := by decide +kernel
theorem dX0_match_39 : decode cX0_match 39 = .ok (.iload 4, 2) := by decide +kernel
theorem dX0_match_41 : decode cX0_match 41 = .ok (.aload_n 0, 1) := by decide +kernel
theorem dX0_match_42 : decode cX0_match 42 = .ok (.getfield 25, 3) := by decide +kernel
theorem dX0_match_45 : decode cX0_match 45 = .ok (.if_icmp .ge 40, 3) := by decide +kernel
theorem dX0_match_48 : decode cX0_match 48 = .ok (.iload 4, 2) := by decide +kernel
theorem dX0_match_50 : decode cX0_match 50 = .ok (.bipush 100, 2) := by decide +kernel
theorem dX0_match_52 : decode cX0_match 52 = .ok (.if_icmp .ge 33, 3) := by decide +kernel
theorem dX0_match_55 : decode cX0_match 55 = .ok (.aload_n 0, 1) := by decide +kernel
theorem dX0_match_56 : decode cX0_match 56 = .ok (.aload_n 1, 1) := by decide +kernel
theorem dX0_match_57 : decode cX0_match 57 = .ok (.aload_n 0, 1) := by decide +kernel
theorem dX0_match_58 : decode cX0_match 58 = .ok (.getfield 19, 3) := by decide +kernel
theorem dX0_match_61 : decode cX0_match 61 = .ok (.iload 4, 2) := by decide +kernel
theorem dX0_match_63 : decode cX0_match 63 = .ok (.iaload, 1) := by decide +kernel
theorem dX0_match_64 : decode cX0_match 64 = .ok (.aload_n 0, 1) := by decide +kernel
theorem dX0_match_65 : decode cX0_match 65 = .ok (.getfield 22, 3) := by decide +kernel
theorem dX0_match_68 : decode cX0_match 68 = .ok (.iload 4, 2) := by decide +kernel
theorem dX0_match_70 : decode cX0_match 70 = .ok (.iaload, 1) := by decide +kernel
theorem dX0_match_71 : decode cX0_match 71 = .ok (.invokevirtual 33, 3) := by decide +kernel
theorem dX0_match_74 : decode cX0_match 74 = .ok (.ifCond .ne 5, 3) := by decide +kernel
theorem dX0_match_77 : decode cX0_match 77 = .ok (.iconst 0, 1) := by decide +kernel
theorem dX0_match_78 : decode cX0_match 78 = .ok (.ireturn, 1) := by decide +kernel
theorem dX0_match_79 : decode cX0_match 79 = .ok (.iinc 4 1, 3) := by decide +kernel
theorem dX0_match_82 : decode cX0_match 82 = .ok (.goto (-43), 3) := by decide +kernel
theorem dX0_match_85 : decode cX0_match 85 = .ok (.iconst 1, 1) := by decide +kernel
theorem dX0_match_86 : decode cX0_match 86 = .ok (.ireturn, 1) := by decide +kernel
theorem dX0_matchPair_0 : decode cX0_matchPair 0 = .ok (.aload_n 1, 1) := by decide +kernel
theorem dX0_matchPair_1 : decode cX0_matchPair 1 = .ok (.iload_n 2, 1) := by decide +kernel
theorem dX0_matchPair_2 : decode cX0_matchPair 2 = .ok (.invokevirtual 37, 3) := by decide +kernel
theorem dX0_matchPair_5 : decode cX0_matchPair 5 = .ok (.aload_n 1, 1) := by decide +kernel
theorem dX0_matchPair_6 : decode cX0_matchPair 6 = .ok (.iload_n 3, 1) := by decide +kernel
theorem dX0_matchPair_7 : decode cX0_matchPair 7 = .ok (.invokevirtual 37, 3) := by decide +kernel
theorem dX0_matchPair_10 : decode cX0_matchPair 10 = .ok (.if_icmp .eq 5, 3) := by decide +kernel
theorem dX0_matchPair_13 : decode cX0_matchPair 13 = .ok (.iconst 0, 1) := by decide +kernel
theorem dX0_matchPair_14 : decode cX0_matchPair 14 = .ok (.ireturn, 1) := by decide +kernel
theorem dX0_matchPair_15 : decode cX0_matchPair 15 = .ok (.iconst 0, 1) := by decide +kernel
theorem dX0_matchPair_16 : decode cX0_matchPair 16 = .ok (.istore 4, 2) := by decide +kernel
theorem dX0_matchPair_18 : decode cX0_matchPair 18 = .ok (.iload 4, 2) := by decide +kernel
theorem dX0_matchPair_20 : decode cX0_matchPair 20 = .ok (.aload_n 0, 1) := by decide +kernel
theorem dX0_matchPair_21 : decode cX0_matchPair 21 = .ok (.getfield 9, 3) := by decide +kernel
theorem dX0_matchPair_24 : decode cX0_matchPair 24 = .ok (.invokevirtual 43, 3) := by decide +kernel
theorem dX0_matchPair_27 : decode cX0_matchPair 27 = .ok (.if_icmp .ge 39, 3) := by decide +kernel
theorem dX0_matchPair_30 : decode cX0_matchPair 30 = .ok (.aload_n 0, 1) := by decide +kernel
theorem dX0_matchPair_31 : decode cX0_matchPair 31 = .ok (.getfield 9, 3) := by decide +kernel
theorem dX0_matchPair_34 : decode cX0_matchPair 34 = .ok (.iload 4, 2) := by decide +kernel
theorem dX0_matchPair_36 : decode cX0_matchPair 36 = .ok (.iconst 1, 1) := by decide +kernel
theorem dX0_matchPair_37 : decode cX0_matchPair 37 = .ok (.invokevirtual 49, 3) := by decide +kernel
theorem dX0_matchPair_40 : decode cX0_matchPair 40 = .ok (.ifCond .eq 20, 3) := by decide +kernel
theorem dX0_matchPair_43 : decode cX0_matchPair 43 = .ok (.aload_n 0, 1) := by decide +kernel
theorem dX0_matchPair_44 : decode cX0_matchPair 44 = .ok (.aload_n 1, 1) := by decide +kernel
theorem dX0_matchPair_45 : decode cX0_matchPair 45 = .ok (.invokevirtual 53, 3) := by decide +kernel
theorem dX0_matchPair_48 : decode cX0_matchPair 48 = .ok (.iload 4, 2) := by decide +kernel
theorem dX0_matchPair_50 : decode cX0_matchPair 50 = .ok (.iload_n 2, 1) := by decide +kernel
theorem dX0_matchPair_51 : decode cX0_matchPair 51 = .ok (.iload_n 3, 1) := by decide +kernel
theorem dX0_matchPair_52 : decode cX0_matchPair 52 = .ok (.invokevirtual 57, 3) := by decide +kernel
theorem dX0_matchPair_55 : decode cX0_matchPair 55 = .ok (.ifCond .ne 5, 3) := by decide +kernel
theorem dX0_matchPair_58 : decode cX0_matchPair 58 = .ok (.iconst 0, 1) := by decide +kernel
theorem dX0_matchPair_59 : decode cX0_matchPair 59 = .ok (.ireturn, 1) := by decide +kernel
theorem dX0_matchPair_60 : decode cX0_matchPair 60 = .ok (.iinc 4 1, 3) := by decide +kernel
theorem dX0_matchPair_63 : decode cX0_matchPair 63 = .ok (.goto (-45), 3) := by decide +kernel
theorem dX0_matchPair_66 : decode cX0_matchPair 66 = .ok (.iconst 1, 1) := by decide +kernel
theorem dX0_matchPair_67 : decode cX0_matchPair 67 = .ok (.ireturn, 1) := by decide +kernel
theorem dX0_matchRows_0 : decode cX0_matchRows 0 = .ok (.aload_n 1, 1) := by decide +kernel
theorem dX0_matchRows_1 : decode cX0_matchRows 1 = .ok (.iload_n 2, 1) := by decide +kernel
theorem dX0_matchRows_2 : decode cX0_matchRows 2 = .ok (.iload_n 3, 1) := by decide +kernel
theorem dX0_matchRows_3 : decode cX0_matchRows 3 = .ok (.invokevirtual 61, 3) := by decide +kernel
theorem dX0_matchRows_6 : decode cX0_matchRows 6 = .ok (.istore 5, 2) := by decide +kernel
theorem dX0_matchRows_8 : decode cX0_matchRows 8 = .ok (.iload 5, 2) := by decide +kernel
theorem dX0_matchRows_10 : decode cX0_matchRows 10 = .ok (.aload_n 1, 1) := by decide +kernel
theorem dX0_matchRows_11 : decode cX0_matchRows 11 = .ok (.iload_n 2, 1) := by decide +kernel
theorem dX0_matchRows_12 : decode cX0_matchRows 12 = .ok (.iload 4, 2) := by decide +kernel
theorem dX0_matchRows_14 : decode cX0_matchRows 14 = .ok (.invokevirtual 61, 3) := by decide +kernel
theorem dX0_matchRows_17 : decode cX0_matchRows 17 = .ok (.if_icmp .eq 5, 3) := by decide +kernel
theorem dX0_matchRows_20 : decode cX0_matchRows 20 = .ok (.iconst 0, 1) := by decide +kernel
theorem dX0_matchRows_21 : decode cX0_matchRows 21 = .ok (.ireturn, 1) := by decide +kernel
theorem dX0_matchRows_22 : decode cX0_matchRows 22 = .ok (.iconst 0, 1) := by decide +kernel
theorem dX0_matchRows_23 : decode cX0_matchRows 23 = .ok (.istore 6, 2) := by decide +kernel
theorem dX0_matchRows_25 : decode cX0_matchRows 25 = .ok (.iload 6, 2) := by decide +kernel
theorem dX0_matchRows_27 : decode cX0_matchRows 27 = .ok (.iload 5, 2) := by decide +kernel
theorem dX0_matchRows_29 : decode cX0_matchRows 29 = .ok (.if_icmp .ge 30, 3) := by decide +kernel
theorem dX0_matchRows_32 : decode cX0_matchRows 32 = .ok (.aload_n 0, 1) := by decide +kernel
theorem dX0_matchRows_33 : decode cX0_matchRows 33 = .ok (.aload_n 1, 1) := by decide +kernel
theorem dX0_matchRows_34 : decode cX0_matchRows 34 = .ok (.iload_n 2, 1) := by decide +kernel
theorem dX0_matchRows_35 : decode cX0_matchRows 35 = .ok (.iload_n 3, 1) := by decide +kernel
theorem dX0_matchRows_36 : decode cX0_matchRows 36 = .ok (.iload 6, 2) := by decide +kernel
theorem dX0_matchRows_38 : decode cX0_matchRows 38 = .ok (.invokevirtual 67, 3) := by decide +kernel
theorem dX0_matchRows_41 : decode cX0_matchRows 41 = .ok (.aload_n 1, 1) := by decide +kernel
theorem dX0_matchRows_42 : decode cX0_matchRows 42 = .ok (.iload_n 2, 1) := by decide +kernel
theorem dX0_matchRows_43 : decode cX0_matchRows 43 = .ok (.iload 4, 2) := by decide +kernel
theorem dX0_matchRows_45 : decode cX0_matchRows 45 = .ok (.iload 6, 2) := by decide +kernel
theorem dX0_matchRows_47 : decode cX0_matchRows 47 = .ok (.invokevirtual 67, 3) := by decide +kernel
theorem dX0_matchRows_50 : decode cX0_matchRows 50 = .ok (.invokevirtual 29, 3) := by decide +kernel
theorem dX0_matchRows_53 : decode cX0_matchRows 53 = .ok (.iinc 6 1, 3) := by decide +kernel
theorem dX0_matchRows_56 : decode cX0_matchRows 56 = .ok (.goto (-31), 3) := by decide +kernel
theorem dX0_matchRows_59 : decode cX0_matchRows 59 = .ok (.iconst 1, 1) := by decide +kernel
theorem dX0_matchRows_60 : decode cX0_matchRows 60 = .ok (.ireturn, 1) := by decide +kernel
theorem dX0_demand_0 : decode cX0_demand 0 = .ok (.iload_n 1, 1) := by decide +kernel
theorem dX0_demand_1 : decode cX0_demand 1 = .ok (.invokestatic 71, 3) := by decide +kernel
theorem dX0_demand_4 : decode cX0_demand 4 = .ok (.ifCond .eq 34, 3) := by decide +kernel
theorem dX0_demand_7 : decode cX0_demand 7 = .ok (.iload_n 2, 1) := by decide +kernel
theorem dX0_demand_8 : decode cX0_demand 8 = .ok (.invokestatic 71, 3) := by decide +kernel
theorem dX0_demand_11 : decode cX0_demand 11 = .ok (.ifCond .eq 27, 3) := by decide +kernel
theorem dX0_demand_14 : decode cX0_demand 14 = .ok (.aload_n 0, 1) := by decide +kernel
theorem dX0_demand_15 : decode cX0_demand 15 = .ok (.getfield 15, 3) := by decide +kernel
theorem dX0_demand_18 : decode cX0_demand 18 = .ok (.iload_n 1, 1) := by decide +kernel
theorem dX0_demand_19 : decode cX0_demand 19 = .ok (.iaload, 1) := by decide +kernel
theorem dX0_demand_20 : decode cX0_demand 20 = .ok (.aload_n 0, 1) := by decide +kernel
theorem dX0_demand_21 : decode cX0_demand 21 = .ok (.getfield 15, 3) := by decide +kernel
theorem dX0_demand_24 : decode cX0_demand 24 = .ok (.iload_n 2, 1) := by decide +kernel
theorem dX0_demand_25 : decode cX0_demand 25 = .ok (.iaload, 1) := by decide +kernel
theorem dX0_demand_26 : decode cX0_demand 26 = .ok (.if_icmp .eq 12, 3) := by decide +kernel
theorem dX0_demand_29 : decode cX0_demand 29 = .ok (.aload_n 0, 1) := by decide +kernel
theorem dX0_demand_30 : decode cX0_demand 30 = .ok (.getfield 25, 3) := by decide +kernel
theorem dX0_demand_33 : decode cX0_demand 33 = .ok (.bipush 100, 2) := by decide +kernel
theorem dX0_demand_35 : decode cX0_demand 35 = .ok (.if_icmp .lt 4, 3) := by decide +kernel
theorem dX0_demand_38 : decode cX0_demand 38 = .ok (.return_, 1) := by decide +kernel
theorem dX0_demand_39 : decode cX0_demand 39 = .ok (.aload_n 0, 1) := by decide +kernel
theorem dX0_demand_40 : decode cX0_demand 40 = .ok (.getfield 19, 3) := by decide +kernel
theorem dX0_demand_43 : decode cX0_demand 43 = .ok (.aload_n 0, 1) := by decide +kernel
theorem dX0_demand_44 : decode cX0_demand 44 = .ok (.getfield 25, 3) := by decide +kernel
theorem dX0_demand_47 : decode cX0_demand 47 = .ok (.iload_n 1, 1) := by decide +kernel
theorem dX0_demand_48 : decode cX0_demand 48 = .ok (.iastore, 1) := by decide +kernel
theorem dX0_demand_49 : decode cX0_demand 49 = .ok (.aload_n 0, 1) := by decide +kernel
theorem dX0_demand_50 : decode cX0_demand 50 = .ok (.getfield 22, 3) := by decide +kernel
theorem dX0_demand_53 : decode cX0_demand 53 = .ok (.aload_n 0, 1) := by decide +kernel
theorem dX0_demand_54 : decode cX0_demand 54 = .ok (.getfield 25, 3) := by decide +kernel
theorem dX0_demand_57 : decode cX0_demand 57 = .ok (.iload_n 2, 1) := by decide +kernel
theorem dX0_demand_58 : decode cX0_demand 58 = .ok (.iastore, 1) := by decide +kernel
theorem dX0_demand_59 : decode cX0_demand 59 = .ok (.aload_n 0, 1) := by decide +kernel
theorem dX0_demand_60 : decode cX0_demand 60 = .ok (.dup, 1) := by decide +kernel
theorem dX0_demand_61 : decode cX0_demand 61 = .ok (.getfield 25, 3) := by decide +kernel
theorem dX0_demand_64 : decode cX0_demand 64 = .ok (.iconst 1, 1) := by decide +kernel
theorem dX0_demand_65 : decode cX0_demand 65 = .ok (.iadd, 1) := by decide +kernel
theorem dX0_demand_66 : decode cX0_demand 66 = .ok (.putfield 25, 3) := by decide +kernel
theorem dX0_demand_69 : decode cX0_demand 69 = .ok (.aload_n 0, 1) := by decide +kernel
theorem dX0_demand_70 : decode cX0_demand 70 = .ok (.getfield 15, 3) := by decide +kernel
theorem dX0_demand_73 : decode cX0_demand 73 = .ok (.iload_n 2, 1) := by decide +kernel
theorem dX0_demand_74 : decode cX0_demand 74 = .ok (.iaload, 1) := by decide +kernel
theorem dX0_demand_75 : decode cX0_demand 75 = .ok (.istore_n 3, 1) := by decide +kernel
theorem dX0_demand_76 : decode cX0_demand 76 = .ok (.iconst 0, 1) := by decide +kernel
theorem dX0_demand_77 : decode cX0_demand 77 = .ok (.istore 4, 2) := by decide +kernel
theorem dX0_demand_79 : decode cX0_demand 79 = .ok (.iload 4, 2) := by decide +kernel
theorem dX0_demand_81 : decode cX0_demand 81 = .ok (.bipush 100, 2) := by decide +kernel
theorem dX0_demand_83 : decode cX0_demand 83 = .ok (.if_icmp .ge 33, 3) := by decide +kernel
theorem dX0_demand_86 : decode cX0_demand 86 = .ok (.aload_n 0, 1) := by decide +kernel
theorem dX0_demand_87 : decode cX0_demand 87 = .ok (.getfield 15, 3) := by decide +kernel
theorem dX0_demand_90 : decode cX0_demand 90 = .ok (.iload 4, 2) := by decide +kernel
theorem dX0_demand_92 : decode cX0_demand 92 = .ok (.iaload, 1) := by decide +kernel
theorem dX0_demand_93 : decode cX0_demand 93 = .ok (.iload_n 3, 1) := by decide +kernel
theorem dX0_demand_94 : decode cX0_demand 94 = .ok (.if_icmp .ne 16, 3) := by decide +kernel
theorem dX0_demand_97 : decode cX0_demand 97 = .ok (.aload_n 0, 1) := by decide +kernel
theorem dX0_demand_98 : decode cX0_demand 98 = .ok (.getfield 15, 3) := by decide +kernel
theorem dX0_demand_101 : decode cX0_demand 101 = .ok (.iload 4, 2) := by decide +kernel
theorem dX0_demand_103 : decode cX0_demand 103 = .ok (.aload_n 0, 1) := by decide +kernel
theorem dX0_demand_104 : decode cX0_demand 104 = .ok (.getfield 15, 3) := by decide +kernel
theorem dX0_demand_107 : decode cX0_demand 107 = .ok (.iload_n 1, 1) := by decide +kernel
theorem dX0_demand_108 : decode cX0_demand 108 = .ok (.iaload, 1) := by decide +kernel
theorem dX0_demand_109 : decode cX0_demand 109 = .ok (.iastore, 1) := by decide +kernel
theorem dX0_demand_110 : decode cX0_demand 110 = .ok (.iinc 4 1, 3) := by decide +kernel
theorem dX0_demand_113 : decode cX0_demand 113 = .ok (.goto (-34), 3) := by decide +kernel
theorem dX0_demand_116 : decode cX0_demand 116 = .ok (.return_, 1) := by decide +kernel
theorem dX1_init_0 : decode cX1_init 0 = .ok (.aload_n 0, 1) := by decide +kernel
theorem dX1_init_1 : decode cX1_init 1 = .ok (.invokespecial 3, 3) := by decide +kernel
theorem dX1_init_4 : decode cX1_init 4 = .ok (.aload_n 0, 1) := by decide +kernel
theorem dX1_init_5 : decode cX1_init 5 = .ok (.bipush 100, 2) := by decide +kernel
theorem dX1_init_7 : decode cX1_init 7 = .ok (.newarray .int, 2) := by decide +kernel
theorem dX1_init_9 : decode cX1_init 9 = .ok (.putfield 9, 3) := by decide +kernel
theorem dX1_init_12 : decode cX1_init 12 = .ok (.aload_n 0, 1) := by decide +kernel
theorem dX1_init_13 : decode cX1_init 13 = .ok (.bipush 100, 2) := by decide +kernel
theorem dX1_init_15 : decode cX1_init 15 = .ok (.newarray .int, 2) := by decide +kernel
theorem dX1_init_17 : decode cX1_init 17 = .ok (.putfield 15, 3) := by decide +kernel
theorem dX1_init_20 : decode cX1_init 20 = .ok (.aload_n 0, 1) := by decide +kernel
theorem dX1_init_21 : decode cX1_init 21 = .ok (.new 18, 3) := by decide +kernel
theorem dX1_init_24 : decode cX1_init 24 = .ok (.dup, 1) := by decide +kernel
theorem dX1_init_25 : decode cX1_init 25 = .ok (.invokespecial 20, 3) := by decide +kernel
theorem dX1_init_28 : decode cX1_init 28 = .ok (.putfield 21, 3) := by decide +kernel
theorem dX1_init_31 : decode cX1_init 31 = .ok (.aload_n 0, 1) := by decide +kernel
theorem dX1_init_32 : decode cX1_init 32 = .ok (.new 18, 3) := by decide +kernel
theorem dX1_init_35 : decode cX1_init 35 = .ok (.dup, 1) := by decide +kernel
theorem dX1_init_36 : decode cX1_init 36 = .ok (.invokespecial 20, 3) := by decide +kernel
theorem dX1_init_39 : decode cX1_init 39 = .ok (.putfield 25, 3) := by decide +kernel
theorem dX1_init_42 : decode cX1_init 42 = .ok (.iconst 0, 1) := by decide +kernel
theorem dX1_init_43 : decode cX1_init 43 = .ok (.istore_n 1, 1) := by decide +kernel
theorem dX1_init_44 : decode cX1_init 44 = .ok (.iload_n 1, 1) := by decide +kernel
theorem dX1_init_45 : decode cX1_init 45 = .ok (.bipush 100, 2) := by decide +kernel
theorem dX1_init_47 : decode cX1_init 47 = .ok (.if_icmp .ge 16, 3) := by decide +kernel
theorem dX1_init_50 : decode cX1_init 50 = .ok (.aload_n 0, 1) := by decide +kernel
theorem dX1_init_51 : decode cX1_init 51 = .ok (.getfield 9, 3) := by decide +kernel
theorem dX1_init_54 : decode cX1_init 54 = .ok (.iload_n 1, 1) := by decide +kernel
theorem dX1_init_55 : decode cX1_init 55 = .ok (.iconst (-1), 1) := by decide +kernel
theorem dX1_init_56 : decode cX1_init 56 = .ok (.iastore, 1) := by decide +kernel
theorem dX1_init_57 : decode cX1_init 57 = .ok (.iinc 1 1, 3) := by decide +kernel
theorem dX1_init_60 : decode cX1_init 60 = .ok (.goto (-16), 3) := by decide +kernel
theorem dX1_init_63 : decode cX1_init 63 = .ok (.return_, 1) := by decide +kernel
theorem dX1_has_0 : decode cX1_has 0 = .ok (.aload_n 0, 1) := by decide +kernel
theorem dX1_has_1 : decode cX1_has 1 = .ok (.getfield 21, 3) := by decide +kernel
theorem dX1_has_4 : decode cX1_has 4 = .ok (.areturn, 1) := by decide +kernel
theorem dX1_had_0 : decode cX1_had 0 = .ok (.aload_n 0, 1) := by decide +kernel
theorem dX1_had_1 : decode cX1_had 1 = .ok (.getfield 25, 3) := by decide +kernel
theorem dX1_had_4 : decode cX1_had 4 = .ok (.areturn, 1) := by decide +kernel
theorem dX1_objects_0 : decode cX1_objects 0 = .ok (.aload_n 0, 1) := by decide +kernel
theorem dX1_objects_1 : decode cX1_objects 1 = .ok (.getfield 28, 3) := by decide +kernel
theorem dX1_objects_4 : decode cX1_objects 4 = .ok (.ireturn, 1) := by decide +kernel
theorem dX1_pairs_0 : decode cX1_pairs 0 = .ok (.aload_n 0, 1) := by decide +kernel
theorem dX1_pairs_1 : decode cX1_pairs 1 = .ok (.getfield 32, 3) := by decide +kernel
theorem dX1_pairs_4 : decode cX1_pairs 4 = .ok (.ireturn, 1) := by decide +kernel
theorem dX1_slotOf_0 : decode cX1_slotOf 0 = .ok (.iload_n 1, 1) := by decide +kernel
theorem dX1_slotOf_1 : decode cX1_slotOf 1 = .ok (.ifCond .ge 7, 3) := by decide +kernel
theorem dX1_slotOf_4 : decode cX1_slotOf 4 = .ok (.iconst (-1), 1) := by decide +kernel
theorem dX1_slotOf_5 : decode cX1_slotOf 5 = .ok (.goto 8, 3) := by decide +kernel
theorem dX1_slotOf_8 : decode cX1_slotOf 8 = .ok (.aload_n 0, 1) := by decide +kernel
theorem dX1_slotOf_9 : decode cX1_slotOf 9 = .ok (.iload_n 1, 1) := by decide +kernel
theorem dX1_slotOf_10 : decode cX1_slotOf 10 = .ok (.invokevirtual 35, 3) := by decide +kernel
theorem dX1_slotOf_13 : decode cX1_slotOf 13 = .ok (.ireturn, 1) := by decide +kernel
theorem dX1_numberOf_0 : decode cX1_numberOf 0 = .ok (.iload_n 1, 1) := by decide +kernel
theorem dX1_numberOf_1 : decode cX1_numberOf 1 = .ok (.invokestatic 39, 3) := by decide +kernel
theorem dX1_numberOf_4 : decode cX1_numberOf 4 = .ok (.ifCond .eq 12, 3) := by decide +kernel
theorem dX1_numberOf_7 : decode cX1_numberOf 7 = .ok (.aload_n 0, 1) := by decide +kernel
theorem dX1_numberOf_8 : decode cX1_numberOf 8 = .ok (.getfield 9, 3) := by decide +kernel
theorem dX1_numberOf_11 : decode cX1_numberOf 11 = .ok (.iload_n 1, 1) := by decide +kernel
theorem dX1_numberOf_12 : decode cX1_numberOf 12 = .ok (.iaload, 1) := by decide +kernel
theorem dX1_numberOf_13 : decode cX1_numberOf 13 = .ok (.goto 4, 3) := by decide +kernel
theorem dX1_numberOf_16 : decode cX1_numberOf 16 = .ok (.iconst (-1), 1) := by decide +kernel
theorem dX1_numberOf_17 : decode cX1_numberOf 17 = .ok (.ireturn, 1) := by decide +kernel
theorem dX1_kindOf_0 : decode cX1_kindOf 0 = .ok (.iload_n 1, 1) := by decide +kernel
theorem dX1_kindOf_1 : decode cX1_kindOf 1 = .ok (.invokestatic 39, 3) := by decide +kernel
theorem dX1_kindOf_4 : decode cX1_kindOf 4 = .ok (.ifCond .eq 12, 3) := by decide +kernel
theorem dX1_kindOf_7 : decode cX1_kindOf 7 = .ok (.aload_n 0, 1) := by decide +kernel
theorem dX1_kindOf_8 : decode cX1_kindOf 8 = .ok (.getfield 15, 3) := by decide +kernel
theorem dX1_kindOf_11 : decode cX1_kindOf 11 = .ok (.iload_n 1, 1) := by decide +kernel
theorem dX1_kindOf_12 : decode cX1_kindOf 12 = .ok (.iaload, 1) := by decide +kernel
theorem dX1_kindOf_13 : decode cX1_kindOf 13 = .ok (.goto 4, 3) := by decide +kernel
theorem dX1_kindOf_16 : decode cX1_kindOf 16 = .ok (.iconst (-1), 1) := by decide +kernel
theorem dX1_kindOf_17 : decode cX1_kindOf 17 = .ok (.ireturn, 1) := by decide +kernel
theorem dX1_admit_0 : decode cX1_admit 0 = .ok (.aload_n 0, 1) := by decide +kernel
theorem dX1_admit_1 : decode cX1_admit 1 = .ok (.iconst (-1), 1) := by decide +kernel
theorem dX1_admit_2 : decode cX1_admit 2 = .ok (.invokevirtual 35, 3) := by decide +kernel
theorem dX1_admit_5 : decode cX1_admit 5 = .ok (.istore_n 3, 1) := by decide +kernel
theorem dX1_admit_6 : decode cX1_admit 6 = .ok (.iload_n 3, 1) := by decide +kernel
theorem dX1_admit_7 : decode cX1_admit 7 = .ok (.iconst (-1), 1) := by decide +kernel
theorem dX1_admit_8 : decode cX1_admit 8 = .ok (.if_icmp .eq 27, 3) := by decide +kernel
theorem dX1_admit_11 : decode cX1_admit 11 = .ok (.aload_n 0, 1) := by decide +kernel
theorem dX1_admit_12 : decode cX1_admit 12 = .ok (.getfield 9, 3) := by decide +kernel
theorem dX1_admit_15 : decode cX1_admit 15 = .ok (.iload_n 3, 1) := by decide +kernel
theorem dX1_admit_16 : decode cX1_admit 16 = .ok (.iload_n 1, 1) := by decide +kernel
theorem dX1_admit_17 : decode cX1_admit 17 = .ok (.iastore, 1) := by decide +kernel
theorem dX1_admit_18 : decode cX1_admit 18 = .ok (.aload_n 0, 1) := by decide +kernel
theorem dX1_admit_19 : decode cX1_admit 19 = .ok (.getfield 15, 3) := by decide +kernel
theorem dX1_admit_22 : decode cX1_admit 22 = .ok (.iload_n 3, 1) := by decide +kernel
theorem dX1_admit_23 : decode cX1_admit 23 = .ok (.iload_n 2, 1) := by decide +kernel
theorem dX1_admit_24 : decode cX1_admit 24 = .ok (.iastore, 1) := by decide +kernel
theorem dX1_admit_25 : decode cX1_admit 25 = .ok (.aload_n 0, 1) := by decide +kernel
theorem dX1_admit_26 : decode cX1_admit 26 = .ok (.dup, 1) := by decide +kernel
theorem dX1_admit_27 : decode cX1_admit 27 = .ok (.getfield 28, 3) := by decide +kernel
theorem dX1_admit_30 : decode cX1_admit 30 = .ok (.iconst 1, 1) := by decide +kernel
theorem dX1_admit_31 : decode cX1_admit 31 = .ok (.iadd, 1) := by decide +kernel
theorem dX1_admit_32 : decode cX1_admit 32 = .ok (.putfield 28, 3) := by decide +kernel
theorem dX1_admit_35 : decode cX1_admit 35 = .ok (.iload_n 3, 1) := by decide +kernel
theorem dX1_admit_36 : decode cX1_admit 36 = .ok (.ireturn, 1) := by decide +kernel
theorem dX1_remove_0 : decode cX1_remove 0 = .ok (.aload_n 0, 1) := by decide +kernel
theorem dX1_remove_1 : decode cX1_remove 1 = .ok (.iload_n 1, 1) := by decide +kernel
theorem dX1_remove_2 : decode cX1_remove 2 = .ok (.invokevirtual 45, 3) := by decide +kernel
theorem dX1_remove_5 : decode cX1_remove 5 = .ok (.iconst (-1), 1) := by decide +kernel
theorem dX1_remove_6 : decode cX1_remove 6 = .ok (.if_icmp .ne 4, 3) := by decide +kernel
theorem dX1_remove_9 : decode cX1_remove 9 = .ok (.return_, 1) := by decide +kernel
theorem dX1_remove_10 : decode cX1_remove 10 = .ok (.iconst 0, 1) := by decide +kernel
theorem dX1_remove_11 : decode cX1_remove 11 = .ok (.istore_n 2, 1) := by decide +kernel
theorem dX1_remove_12 : decode cX1_remove 12 = .ok (.iload_n 2, 1) := by decide +kernel
theorem dX1_remove_13 : decode cX1_remove 13 = .ok (.bipush 10, 2) := by decide +kernel
theorem dX1_remove_15 : decode cX1_remove 15 = .ok (.if_icmp .ge 15, 3) := by decide +kernel
theorem dX1_remove_18 : decode cX1_remove 18 = .ok (.aload_n 0, 1) := by decide +kernel
theorem dX1_remove_19 : decode cX1_remove 19 = .ok (.iload_n 2, 1) := by decide +kernel
theorem dX1_remove_20 : decode cX1_remove 20 = .ok (.iload_n 1, 1) := by decide +kernel
theorem dX1_remove_21 : decode cX1_remove 21 = .ok (.invokevirtual 48, 3) := by decide +kernel
theorem dX1_remove_24 : decode cX1_remove 24 = .ok (.iinc 2 1, 3) := by decide +kernel
theorem dX1_remove_27 : decode cX1_remove 27 = .ok (.goto (-15), 3) := by decide +kernel
theorem dX1_remove_30 : decode cX1_remove 30 = .ok (.aload_n 0, 1) := by decide +kernel
theorem dX1_remove_31 : decode cX1_remove 31 = .ok (.getfield 9, 3) := by decide +kernel
theorem dX1_remove_34 : decode cX1_remove 34 = .ok (.iload_n 1, 1) := by decide +kernel
theorem dX1_remove_35 : decode cX1_remove 35 = .ok (.iconst (-1), 1) := by decide +kernel
theorem dX1_remove_36 : decode cX1_remove 36 = .ok (.iastore, 1) := by decide +kernel
theorem dX1_remove_37 : decode cX1_remove 37 = .ok (.aload_n 0, 1) := by decide +kernel
theorem dX1_remove_38 : decode cX1_remove 38 = .ok (.dup, 1) := by decide +kernel
theorem dX1_remove_39 : decode cX1_remove 39 = .ok (.getfield 28, 3) := by decide +kernel
theorem dX1_remove_42 : decode cX1_remove 42 = .ok (.iconst 1, 1) := by decide +kernel
theorem dX1_remove_43 : decode cX1_remove 43 = .ok (.isub, 1) := by decide +kernel
theorem dX1_remove_44 : decode cX1_remove 44 = .ok (.putfield 28, 3) := by decide +kernel
theorem dX1_remove_47 : decode cX1_remove 47 = .ok (.return_, 1) := by decide +kernel
theorem dX1_isJoined_0 : decode cX1_isJoined 0 = .ok (.aload_n 0, 1) := by decide +kernel
theorem dX1_isJoined_1 : decode cX1_isJoined 1 = .ok (.getfield 21, 3) := by decide +kernel
theorem dX1_isJoined_4 : decode cX1_isJoined 4 = .ok (.iload_n 1, 1) := by decide +kernel
theorem dX1_isJoined_5 : decode cX1_isJoined 5 = .ok (.iload_n 2, 1) := by decide +kernel
theorem dX1_isJoined_6 : decode cX1_isJoined 6 = .ok (.iload_n 3, 1) := by decide +kernel
theorem dX1_isJoined_7 : decode cX1_isJoined 7 = .ok (.invokevirtual 52, 3) := by decide +kernel
theorem dX1_isJoined_10 : decode cX1_isJoined 10 = .ok (.ireturn, 1) := by decide +kernel
theorem dX1_join_0 : decode cX1_join 0 = .ok (.aload_n 0, 1) := by decide +kernel
theorem dX1_join_1 : decode cX1_join 1 = .ok (.getfield 21, 3) := by decide +kernel
theorem dX1_join_4 : decode cX1_join 4 = .ok (.iload_n 1, 1) := by decide +kernel
theorem dX1_join_5 : decode cX1_join 5 = .ok (.iload_n 2, 1) := by decide +kernel
theorem dX1_join_6 : decode cX1_join 6 = .ok (.iload 4, 2) := by decide +kernel
theorem dX1_join_8 : decode cX1_join 8 = .ok (.iload_n 3, 1) := by decide +kernel
theorem dX1_join_9 : decode cX1_join 9 = .ok (.invokevirtual 56, 3) := by decide +kernel
theorem dX1_join_12 : decode cX1_join 12 = .ok (.aload_n 0, 1) := by decide +kernel
theorem dX1_join_13 : decode cX1_join 13 = .ok (.getfield 25, 3) := by decide +kernel
theorem dX1_join_16 : decode cX1_join 16 = .ok (.iload_n 1, 1) := by decide +kernel
theorem dX1_join_17 : decode cX1_join 17 = .ok (.iload_n 3, 1) := by decide +kernel
theorem dX1_join_18 : decode cX1_join 18 = .ok (.iload_n 2, 1) := by decide +kernel
theorem dX1_join_19 : decode cX1_join 19 = .ok (.invokevirtual 60, 3) := by decide +kernel
theorem dX1_join_22 : decode cX1_join 22 = .ok (.aload_n 0, 1) := by decide +kernel
theorem dX1_join_23 : decode cX1_join 23 = .ok (.dup, 1) := by decide +kernel
theorem dX1_join_24 : decode cX1_join 24 = .ok (.getfield 32, 3) := by decide +kernel
theorem dX1_join_27 : decode cX1_join 27 = .ok (.iconst 1, 1) := by decide +kernel
theorem dX1_join_28 : decode cX1_join 28 = .ok (.iadd, 1) := by decide +kernel
theorem dX1_join_29 : decode cX1_join 29 = .ok (.putfield 32, 3) := by decide +kernel
theorem dX1_join_32 : decode cX1_join 32 = .ok (.return_, 1) := by decide +kernel
theorem dX1_joinHas_0 : decode cX1_joinHas 0 = .ok (.aload_n 0, 1) := by decide +kernel
theorem dX1_joinHas_1 : decode cX1_joinHas 1 = .ok (.getfield 21, 3) := by decide +kernel
theorem dX1_joinHas_4 : decode cX1_joinHas 4 = .ok (.iload_n 1, 1) := by decide +kernel
theorem dX1_joinHas_5 : decode cX1_joinHas 5 = .ok (.iload_n 2, 1) := by decide +kernel
theorem dX1_joinHas_6 : decode cX1_joinHas 6 = .ok (.iload_n 3, 1) := by decide +kernel
theorem dX1_joinHas_7 : decode cX1_joinHas 7 = .ok (.invokevirtual 60, 3) := by decide +kernel
theorem dX1_joinHas_10 : decode cX1_joinHas 10 = .ok (.aload_n 0, 1) := by decide +kernel
theorem dX1_joinHas_11 : decode cX1_joinHas 11 = .ok (.dup, 1) := by decide +kernel
theorem dX1_joinHas_12 : decode cX1_joinHas 12 = .ok (.getfield 32, 3) := by decide +kernel
theorem dX1_joinHas_15 : decode cX1_joinHas 15 = .ok (.iconst 1, 1) := by decide +kernel
theorem dX1_joinHas_16 : decode cX1_joinHas 16 = .ok (.iadd, 1) := by decide +kernel
theorem dX1_joinHas_17 : decode cX1_joinHas 17 = .ok (.putfield 32, 3) := by decide +kernel
theorem dX1_joinHas_20 : decode cX1_joinHas 20 = .ok (.return_, 1) := by decide +kernel
theorem dX1_joinHad_0 : decode cX1_joinHad 0 = .ok (.aload_n 0, 1) := by decide +kernel
theorem dX1_joinHad_1 : decode cX1_joinHad 1 = .ok (.getfield 25, 3) := by decide +kernel
theorem dX1_joinHad_4 : decode cX1_joinHad 4 = .ok (.iload_n 1, 1) := by decide +kernel
theorem dX1_joinHad_5 : decode cX1_joinHad 5 = .ok (.iload_n 3, 1) := by decide +kernel
theorem dX1_joinHad_6 : decode cX1_joinHad 6 = .ok (.iload_n 2, 1) := by decide +kernel
theorem dX1_joinHad_7 : decode cX1_joinHad 7 = .ok (.invokevirtual 60, 3) := by decide +kernel
theorem dX1_joinHad_10 : decode cX1_joinHad 10 = .ok (.return_, 1) := by decide +kernel
theorem dX1_separate_0 : decode cX1_separate 0 = .ok (.aload_n 0, 1) := by decide +kernel
theorem dX1_separate_1 : decode cX1_separate 1 = .ok (.getfield 21, 3) := by decide +kernel
theorem dX1_separate_4 : decode cX1_separate 4 = .ok (.iload_n 1, 1) := by decide +kernel
theorem dX1_separate_5 : decode cX1_separate 5 = .ok (.iload_n 2, 1) := by decide +kernel
theorem dX1_separate_6 : decode cX1_separate 6 = .ok (.iload_n 3, 1) := by decide +kernel
theorem dX1_separate_7 : decode cX1_separate 7 = .ok (.invokevirtual 64, 3) := by decide +kernel
theorem dX1_separate_10 : decode cX1_separate 10 = .ok (.ifCond .ne 5, 3) := by decide +kernel
theorem dX1_separate_13 : decode cX1_separate 13 = .ok (.iconst 0, 1) := by decide +kernel
theorem dX1_separate_14 : decode cX1_separate 14 = .ok (.ireturn, 1) := by decide +kernel
theorem dX1_separate_15 : decode cX1_separate 15 = .ok (.aload_n 0, 1) := by decide +kernel
theorem dX1_separate_16 : decode cX1_separate 16 = .ok (.getfield 25, 3) := by decide +kernel
theorem dX1_separate_19 : decode cX1_separate 19 = .ok (.iload_n 1, 1) := by decide +kernel
theorem dX1_separate_20 : decode cX1_separate 20 = .ok (.iload_n 3, 1) := by decide +kernel
theorem dX1_separate_21 : decode cX1_separate 21 = .ok (.iload_n 2, 1) := by decide +kernel
theorem dX1_separate_22 : decode cX1_separate 22 = .ok (.invokevirtual 64, 3) := by decide +kernel
theorem dX1_separate_25 : decode cX1_separate 25 = .ok (.pop, 1) := by decide +kernel
theorem dX1_separate_26 : decode cX1_separate 26 = .ok (.aload_n 0, 1) := by decide +kernel
theorem dX1_separate_27 : decode cX1_separate 27 = .ok (.dup, 1) := by decide +kernel
theorem dX1_separate_28 : decode cX1_separate 28 = .ok (.getfield 32, 3) := by decide +kernel
theorem dX1_separate_31 : decode cX1_separate 31 = .ok (.iconst 1, 1) := by decide +kernel
theorem dX1_separate_32 : decode cX1_separate 32 = .ok (.isub, 1) := by decide +kernel
theorem dX1_separate_33 : decode cX1_separate 33 = .ok (.putfield 32, 3) := by decide +kernel
theorem dX1_separate_36 : decode cX1_separate 36 = .ok (.iconst 1, 1) := by decide +kernel
theorem dX1_separate_37 : decode cX1_separate 37 = .ok (.ireturn, 1) := by decide +kernel
theorem dX1_takeFrom_0 : decode cX1_takeFrom 0 = .ok (.aload_n 1, 1) := by decide +kernel
theorem dX1_takeFrom_1 : decode cX1_takeFrom 1 = .ok (.getfield 9, 3) := by decide +kernel
theorem dX1_takeFrom_4 : decode cX1_takeFrom 4 = .ok (.iconst 0, 1) := by decide +kernel
theorem dX1_takeFrom_5 : decode cX1_takeFrom 5 = .ok (.aload_n 0, 1) := by decide +kernel
theorem dX1_takeFrom_6 : decode cX1_takeFrom 6 = .ok (.getfield 9, 3) := by decide +kernel
theorem dX1_takeFrom_9 : decode cX1_takeFrom 9 = .ok (.iconst 0, 1) := by decide +kernel
theorem dX1_takeFrom_10 : decode cX1_takeFrom 10 = .ok (.bipush 100, 2) := by decide +kernel
theorem dX1_takeFrom_12 : decode cX1_takeFrom 12 = .ok (.invokestatic 67, 3) := by decide +kernel
theorem dX1_takeFrom_15 : decode cX1_takeFrom 15 = .ok (.aload_n 1, 1) := by decide +kernel
theorem dX1_takeFrom_16 : decode cX1_takeFrom 16 = .ok (.getfield 15, 3) := by decide +kernel
theorem dX1_takeFrom_19 : decode cX1_takeFrom 19 = .ok (.iconst 0, 1) := by decide +kernel
theorem dX1_takeFrom_20 : decode cX1_takeFrom 20 = .ok (.aload_n 0, 1) := by decide +kernel
theorem dX1_takeFrom_21 : decode cX1_takeFrom 21 = .ok (.getfield 15, 3) := by decide +kernel
theorem dX1_takeFrom_24 : decode cX1_takeFrom 24 = .ok (.iconst 0, 1) := by decide +kernel
theorem dX1_takeFrom_25 : decode cX1_takeFrom 25 = .ok (.bipush 100, 2) := by decide +kernel
theorem dX1_takeFrom_27 : decode cX1_takeFrom 27 = .ok (.invokestatic 67, 3) := by decide +kernel
theorem dX1_takeFrom_30 : decode cX1_takeFrom 30 = .ok (.aload_n 0, 1) := by decide +kernel
theorem dX1_takeFrom_31 : decode cX1_takeFrom 31 = .ok (.getfield 21, 3) := by decide +kernel
theorem dX1_takeFrom_34 : decode cX1_takeFrom 34 = .ok (.aload_n 1, 1) := by decide +kernel
theorem dX1_takeFrom_35 : decode cX1_takeFrom 35 = .ok (.getfield 21, 3) := by decide +kernel
theorem dX1_takeFrom_38 : decode cX1_takeFrom 38 = .ok (.invokevirtual 73, 3) := by decide +kernel
theorem dX1_takeFrom_41 : decode cX1_takeFrom 41 = .ok (.aload_n 0, 1) := by decide +kernel
theorem dX1_takeFrom_42 : decode cX1_takeFrom 42 = .ok (.getfield 25, 3) := by decide +kernel
theorem dX1_takeFrom_45 : decode cX1_takeFrom 45 = .ok (.aload_n 1, 1) := by decide +kernel
theorem dX1_takeFrom_46 : decode cX1_takeFrom 46 = .ok (.getfield 25, 3) := by decide +kernel
theorem dX1_takeFrom_49 : decode cX1_takeFrom 49 = .ok (.invokevirtual 73, 3) := by decide +kernel
theorem dX1_takeFrom_52 : decode cX1_takeFrom 52 = .ok (.aload_n 0, 1) := by decide +kernel
theorem dX1_takeFrom_53 : decode cX1_takeFrom 53 = .ok (.aload_n 1, 1) := by decide +kernel
theorem dX1_takeFrom_54 : decode cX1_takeFrom 54 = .ok (.getfield 28, 3) := by decide +kernel
theorem dX1_takeFrom_57 : decode cX1_takeFrom 57 = .ok (.putfield 28, 3) := by decide +kernel
theorem dX1_takeFrom_60 : decode cX1_takeFrom 60 = .ok (.aload_n 0, 1) := by decide +kernel
theorem dX1_takeFrom_61 : decode cX1_takeFrom 61 = .ok (.aload_n 1, 1) := by decide +kernel
theorem dX1_takeFrom_62 : decode cX1_takeFrom 62 = .ok (.getfield 32, 3) := by decide +kernel
theorem dX1_takeFrom_65 : decode cX1_takeFrom 65 = .ok (.putfield 32, 3) := by decide +kernel
theorem dX1_takeFrom_68 : decode cX1_takeFrom 68 = .ok (.return_, 1) := by decide +kernel
theorem dX1_slotBearing_0 : decode cX1_slotBearing 0 = .ok (.iconst 0, 1) := by decide +kernel
theorem dX1_slotBearing_1 : decode cX1_slotBearing 1 = .ok (.istore_n 2, 1) := by decide +kernel
theorem dX1_slotBearing_2 : decode cX1_slotBearing 2 = .ok (.iload_n 2, 1) := by decide +kernel
theorem dX1_slotBearing_3 : decode cX1_slotBearing 3 = .ok (.bipush 100, 2) := by decide +kernel
theorem dX1_slotBearing_5 : decode cX1_slotBearing 5 = .ok (.if_icmp .ge 21, 3) := by decide +kernel
theorem dX1_slotBearing_8 : decode cX1_slotBearing 8 = .ok (.aload_n 0, 1) := by decide +kernel
theorem dX1_slotBearing_9 : decode cX1_slotBearing 9 = .ok (.getfield 9, 3) := by decide +kernel
theorem dX1_slotBearing_12 : decode cX1_slotBearing 12 = .ok (.iload_n 2, 1) := by decide +kernel
theorem dX1_slotBearing_13 : decode cX1_slotBearing 13 = .ok (.iaload, 1) := by decide +kernel
theorem dX1_slotBearing_14 : decode cX1_slotBearing 14 = .ok (.iload_n 1, 1) := by decide +kernel
theorem dX1_slotBearing_15 : decode cX1_slotBearing 15 = .ok (.if_icmp .ne 5, 3) := by decide +kernel
theorem dX1_slotBearing_18 : decode cX1_slotBearing 18 = .ok (.iload_n 2, 1) := by decide +kernel
theorem dX1_slotBearing_19 : decode cX1_slotBearing 19 = .ok (.ireturn, 1) := by decide +kernel
theorem dX1_slotBearing_20 : decode cX1_slotBearing 20 = .ok (.iinc 2 1, 3) := by decide +kernel
theorem dX1_slotBearing_23 : decode cX1_slotBearing 23 = .ok (.goto (-21), 3) := by decide +kernel
theorem dX1_slotBearing_26 : decode cX1_slotBearing 26 = .ok (.iconst (-1), 1) := by decide +kernel
theorem dX1_slotBearing_27 : decode cX1_slotBearing 27 = .ok (.ireturn, 1) := by decide +kernel
theorem dX1_separateAll_0 : decode cX1_separateAll 0 = .ok (.aload_n 0, 1) := by decide +kernel
theorem dX1_separateAll_1 : decode cX1_separateAll 1 = .ok (.getfield 21, 3) := by decide +kernel
theorem dX1_separateAll_4 : decode cX1_separateAll 4 = .ok (.iload_n 1, 1) := by decide +kernel
theorem dX1_separateAll_5 : decode cX1_separateAll 5 = .ok (.iload_n 2, 1) := by decide +kernel
theorem dX1_separateAll_6 : decode cX1_separateAll 6 = .ok (.invokevirtual 77, 3) := by decide +kernel
theorem dX1_separateAll_9 : decode cX1_separateAll 9 = .ok (.iconst 1, 1) := by decide +kernel
theorem dX1_separateAll_10 : decode cX1_separateAll 10 = .ok (.isub, 1) := by decide +kernel
theorem dX1_separateAll_11 : decode cX1_separateAll 11 = .ok (.istore_n 3, 1) := by decide +kernel
theorem dX1_separateAll_12 : decode cX1_separateAll 12 = .ok (.iload_n 3, 1) := by decide +kernel
theorem dX1_separateAll_13 : decode cX1_separateAll 13 = .ok (.ifCond .lt 26, 3) := by decide +kernel
theorem dX1_separateAll_16 : decode cX1_separateAll 16 = .ok (.aload_n 0, 1) := by decide +kernel
theorem dX1_separateAll_17 : decode cX1_separateAll 17 = .ok (.iload_n 1, 1) := by decide +kernel
theorem dX1_separateAll_18 : decode cX1_separateAll 18 = .ok (.iload_n 2, 1) := by decide +kernel
theorem dX1_separateAll_19 : decode cX1_separateAll 19 = .ok (.aload_n 0, 1) := by decide +kernel
theorem dX1_separateAll_20 : decode cX1_separateAll 20 = .ok (.getfield 21, 3) := by decide +kernel
theorem dX1_separateAll_23 : decode cX1_separateAll 23 = .ok (.iload_n 1, 1) := by decide +kernel
theorem dX1_separateAll_24 : decode cX1_separateAll 24 = .ok (.iload_n 2, 1) := by decide +kernel
theorem dX1_separateAll_25 : decode cX1_separateAll 25 = .ok (.iload_n 3, 1) := by decide +kernel
theorem dX1_separateAll_26 : decode cX1_separateAll 26 = .ok (.invokevirtual 81, 3) := by decide +kernel
theorem dX1_separateAll_29 : decode cX1_separateAll 29 = .ok (.invokevirtual 85, 3) := by decide +kernel
theorem dX1_separateAll_32 : decode cX1_separateAll 32 = .ok (.pop, 1) := by decide +kernel
theorem dX1_separateAll_33 : decode cX1_separateAll 33 = .ok (.iinc 3 (-1), 3) := by decide +kernel
theorem dX1_separateAll_36 : decode cX1_separateAll 36 = .ok (.goto (-24), 3) := by decide +kernel
theorem dX1_separateAll_39 : decode cX1_separateAll 39 = .ok (.aload_n 0, 1) := by decide +kernel
theorem dX1_separateAll_40 : decode cX1_separateAll 40 = .ok (.getfield 25, 3) := by decide +kernel
theorem dX1_separateAll_43 : decode cX1_separateAll 43 = .ok (.iload_n 1, 1) := by decide +kernel
theorem dX1_separateAll_44 : decode cX1_separateAll 44 = .ok (.iload_n 2, 1) := by decide +kernel
theorem dX1_separateAll_45 : decode cX1_separateAll 45 = .ok (.invokevirtual 77, 3) := by decide +kernel
theorem dX1_separateAll_48 : decode cX1_separateAll 48 = .ok (.iconst 1, 1) := by decide +kernel
theorem dX1_separateAll_49 : decode cX1_separateAll 49 = .ok (.isub, 1) := by decide +kernel
theorem dX1_separateAll_50 : decode cX1_separateAll 50 = .ok (.istore_n 3, 1) := by decide +kernel
theorem dX1_separateAll_51 : decode cX1_separateAll 51 = .ok (.iload_n 3, 1) := by decide +kernel
theorem dX1_separateAll_52 : decode cX1_separateAll 52 = .ok (.ifCond .lt 26, 3) := by decide +kernel
theorem dX1_separateAll_55 : decode cX1_separateAll 55 = .ok (.aload_n 0, 1) := by decide +kernel
theorem dX1_separateAll_56 : decode cX1_separateAll 56 = .ok (.iload_n 1, 1) := by decide +kernel
theorem dX1_separateAll_57 : decode cX1_separateAll 57 = .ok (.aload_n 0, 1) := by decide +kernel
theorem dX1_separateAll_58 : decode cX1_separateAll 58 = .ok (.getfield 25, 3) := by decide +kernel
theorem dX1_separateAll_61 : decode cX1_separateAll 61 = .ok (.iload_n 1, 1) := by decide +kernel
theorem dX1_separateAll_62 : decode cX1_separateAll 62 = .ok (.iload_n 2, 1) := by decide +kernel
theorem dX1_separateAll_63 : decode cX1_separateAll 63 = .ok (.iload_n 3, 1) := by decide +kernel
theorem dX1_separateAll_64 : decode cX1_separateAll 64 = .ok (.invokevirtual 81, 3) := by decide +kernel
theorem dX1_separateAll_67 : decode cX1_separateAll 67 = .ok (.iload_n 2, 1) := by decide +kernel
theorem dX1_separateAll_68 : decode cX1_separateAll 68 = .ok (.invokevirtual 85, 3) := by decide +kernel
theorem dX1_separateAll_71 : decode cX1_separateAll 71 = .ok (.pop, 1) := by decide +kernel
theorem dX1_separateAll_72 : decode cX1_separateAll 72 = .ok (.iinc 3 (-1), 3) := by decide +kernel
theorem dX1_separateAll_75 : decode cX1_separateAll 75 = .ok (.goto (-24), 3) := by decide +kernel
theorem dX1_separateAll_78 : decode cX1_separateAll 78 = .ok (.return_, 1) := by decide +kernel
theorem dX2_init_0 : decode cX2_init 0 = .ok (.aload_n 0, 1) := by decide +kernel
theorem dX2_init_1 : decode cX2_init 1 = .ok (.invokespecial 3, 3) := by decide +kernel
theorem dX2_init_4 : decode cX2_init 4 = .ok (.aload_n 0, 1) := by decide +kernel
theorem dX2_init_5 : decode cX2_init 5 = .ok (.aload_n 1, 1) := by decide +kernel
theorem dX2_init_6 : decode cX2_init 6 = .ok (.putfield 9, 3) := by decide +kernel
theorem dX2_init_9 : decode cX2_init 9 = .ok (.aload_n 0, 1) := by decide +kernel
theorem dX2_init_10 : decode cX2_init 10 = .ok (.aload_n 2, 1) := by decide +kernel
theorem dX2_init_11 : decode cX2_init 11 = .ok (.putfield 15, 3) := by decide +kernel
theorem dX2_init_14 : decode cX2_init 14 = .ok (.aload_n 0, 1) := by decide +kernel
theorem dX2_init_15 : decode cX2_init 15 = .ok (.new 19, 3) := by decide +kernel
theorem dX2_init_18 : decode cX2_init 18 = .ok (.dup, 1) := by decide +kernel
theorem dX2_init_19 : decode cX2_init 19 = .ok (.invokespecial 21, 3) := by decide +kernel
theorem dX2_init_22 : decode cX2_init 22 = .ok (.putfield 22, 3) := by decide +kernel
theorem dX2_init_25 : decode cX2_init 25 = .ok (.aload_n 0, 1) := by decide +kernel
theorem dX2_init_26 : decode cX2_init 26 = .ok (.new 19, 3) := by decide +kernel
theorem dX2_init_29 : decode cX2_init 29 = .ok (.dup, 1) := by decide +kernel
theorem dX2_init_30 : decode cX2_init 30 = .ok (.invokespecial 21, 3) := by decide +kernel
theorem dX2_init_33 : decode cX2_init 33 = .ok (.putfield 26, 3) := by decide +kernel
theorem dX2_init_36 : decode cX2_init 36 = .ok (.aload_n 0, 1) := by decide +kernel
theorem dX2_init_37 : decode cX2_init 37 = .ok (.new 19, 3) := by decide +kernel
theorem dX2_init_40 : decode cX2_init 40 = .ok (.dup, 1) := by decide +kernel
theorem dX2_init_41 : decode cX2_init 41 = .ok (.invokespecial 21, 3) := by decide +kernel
theorem dX2_init_44 : decode cX2_init 44 = .ok (.putfield 29, 3) := by decide +kernel
theorem dX2_init_47 : decode cX2_init 47 = .ok (.return_, 1) := by decide +kernel
theorem dX2_gather_0 : decode cX2_gather 0 = .ok (.aload_n 0, 1) := by decide +kernel
theorem dX2_gather_1 : decode cX2_gather 1 = .ok (.getfield 22, 3) := by decide +kernel
theorem dX2_gather_4 : decode cX2_gather 4 = .ok (.invokevirtual 32, 3) := by decide +kernel
theorem dX2_gather_7 : decode cX2_gather 7 = .ok (.aload_n 0, 1) := by decide +kernel
theorem dX2_gather_8 : decode cX2_gather 8 = .ok (.getfield 22, 3) := by decide +kernel
theorem dX2_gather_11 : decode cX2_gather 11 = .ok (.iload_n 2, 1) := by decide +kernel
theorem dX2_gather_12 : decode cX2_gather 12 = .ok (.invokevirtual 35, 3) := by decide +kernel
theorem dX2_gather_15 : decode cX2_gather 15 = .ok (.iconst 0, 1) := by decide +kernel
theorem dX2_gather_16 : decode cX2_gather 16 = .ok (.istore_n 3, 1) := by decide +kernel
theorem dX2_gather_17 : decode cX2_gather 17 = .ok (.iload_n 3, 1) := by decide +kernel
theorem dX2_gather_18 : decode cX2_gather 18 = .ok (.aload_n 0, 1) := by decide +kernel
theorem dX2_gather_19 : decode cX2_gather 19 = .ok (.getfield 22, 3) := by decide +kernel
theorem dX2_gather_22 : decode cX2_gather 22 = .ok (.invokevirtual 39, 3) := by decide +kernel
theorem dX2_gather_25 : decode cX2_gather 25 = .ok (.if_icmp .ge 50, 3) := by decide +kernel
theorem dX2_gather_28 : decode cX2_gather 28 = .ok (.iload_n 3, 1) := by decide +kernel
theorem dX2_gather_29 : decode cX2_gather 29 = .ok (.bipush 100, 2) := by decide +kernel
theorem dX2_gather_31 : decode cX2_gather 31 = .ok (.if_icmp .ge 44, 3) := by decide +kernel
theorem dX2_gather_34 : decode cX2_gather 34 = .ok (.aload_n 0, 1) := by decide +kernel
theorem dX2_gather_35 : decode cX2_gather 35 = .ok (.getfield 26, 3) := by decide +kernel
theorem dX2_gather_38 : decode cX2_gather 38 = .ok (.invokevirtual 32, 3) := by decide +kernel
theorem dX2_gather_41 : decode cX2_gather 41 = .ok (.aload_n 0, 1) := by decide +kernel
theorem dX2_gather_42 : decode cX2_gather 42 = .ok (.getfield 15, 3) := by decide +kernel
theorem dX2_gather_45 : decode cX2_gather 45 = .ok (.aload_n 1, 1) := by decide +kernel
theorem dX2_gather_46 : decode cX2_gather 46 = .ok (.invokevirtual 43, 3) := by decide +kernel
theorem dX2_gather_49 : decode cX2_gather 49 = .ok (.aload_n 0, 1) := by decide +kernel
theorem dX2_gather_50 : decode cX2_gather 50 = .ok (.getfield 22, 3) := by decide +kernel
theorem dX2_gather_53 : decode cX2_gather 53 = .ok (.iload_n 3, 1) := by decide +kernel
theorem dX2_gather_54 : decode cX2_gather 54 = .ok (.invokevirtual 49, 3) := by decide +kernel
theorem dX2_gather_57 : decode cX2_gather 57 = .ok (.aload_n 0, 1) := by decide +kernel
theorem dX2_gather_58 : decode cX2_gather 58 = .ok (.getfield 26, 3) := by decide +kernel
theorem dX2_gather_61 : decode cX2_gather 61 = .ok (.invokevirtual 53, 3) := by decide +kernel
theorem dX2_gather_64 : decode cX2_gather 64 = .ok (.aload_n 0, 1) := by decide +kernel
theorem dX2_gather_65 : decode cX2_gather 65 = .ok (.aload_n 1, 1) := by decide +kernel
theorem dX2_gather_66 : decode cX2_gather 66 = .ok (.invokevirtual 59, 3) := by decide +kernel
theorem dX2_gather_69 : decode cX2_gather 69 = .ok (.iinc 3 1, 3) := by decide +kernel
theorem dX2_gather_72 : decode cX2_gather 72 = .ok (.goto (-55), 3) := by decide +kernel
theorem dX2_gather_75 : decode cX2_gather 75 = .ok (.return_, 1) := by decide +kernel
theorem dX2_firstBarred_0 : decode cX2_firstBarred 0 = .ok (.aload_n 0, 1) := by decide +kernel
theorem dX2_firstBarred_1 : decode cX2_firstBarred 1 = .ok (.getfield 15, 3) := by decide +kernel
theorem dX2_firstBarred_4 : decode cX2_firstBarred 4 = .ok (.aload_n 1, 1) := by decide +kernel
theorem dX2_firstBarred_5 : decode cX2_firstBarred 5 = .ok (.invokevirtual 43, 3) := by decide +kernel
theorem dX2_firstBarred_8 : decode cX2_firstBarred 8 = .ok (.iload_n 2, 1) := by decide +kernel
theorem dX2_firstBarred_9 : decode cX2_firstBarred 9 = .ok (.invokevirtual 63, 3) := by decide +kernel
theorem dX2_firstBarred_12 : decode cX2_firstBarred 12 = .ok (.astore_n 3, 1) := by decide +kernel
theorem dX2_firstBarred_13 : decode cX2_firstBarred 13 = .ok (.iconst (-1), 1) := by decide +kernel
theorem dX2_firstBarred_14 : decode cX2_firstBarred 14 = .ok (.istore 4, 2) := by decide +kernel
theorem dX2_firstBarred_16 : decode cX2_firstBarred 16 = .ok (.iconst 0, 1) := by decide +kernel
theorem dX2_firstBarred_17 : decode cX2_firstBarred 17 = .ok (.istore 5, 2) := by decide +kernel
theorem dX2_firstBarred_19 : decode cX2_firstBarred 19 = .ok (.iload 5, 2) := by decide +kernel
theorem dX2_firstBarred_21 : decode cX2_firstBarred 21 = .ok (.aload_n 3, 1) := by decide +kernel
theorem dX2_firstBarred_22 : decode cX2_firstBarred 22 = .ok (.invokevirtual 39, 3) := by decide +kernel
theorem dX2_firstBarred_25 : decode cX2_firstBarred 25 = .ok (.if_icmp .ge 74, 3) := by decide +kernel
theorem dX2_firstBarred_28 : decode cX2_firstBarred 28 = .ok (.aload_n 3, 1) := by decide +kernel
theorem dX2_firstBarred_29 : decode cX2_firstBarred 29 = .ok (.iload 5, 2) := by decide +kernel
theorem dX2_firstBarred_31 : decode cX2_firstBarred 31 = .ok (.invokevirtual 49, 3) := by decide +kernel
theorem dX2_firstBarred_34 : decode cX2_firstBarred 34 = .ok (.istore 6, 2) := by decide +kernel
theorem dX2_firstBarred_36 : decode cX2_firstBarred 36 = .ok (.aload_n 0, 1) := by decide +kernel
theorem dX2_firstBarred_37 : decode cX2_firstBarred 37 = .ok (.getfield 22, 3) := by decide +kernel
theorem dX2_firstBarred_40 : decode cX2_firstBarred 40 = .ok (.iload 6, 2) := by decide +kernel
theorem dX2_firstBarred_42 : decode cX2_firstBarred 42 = .ok (.invokevirtual 67, 3) := by decide +kernel
theorem dX2_firstBarred_45 : decode cX2_firstBarred 45 = .ok (.ifCond .eq 18, 3) := by decide +kernel
theorem dX2_firstBarred_48 : decode cX2_firstBarred 48 = .ok (.aload_n 0, 1) := by decide +kernel
theorem dX2_firstBarred_49 : decode cX2_firstBarred 49 = .ok (.aload_n 1, 1) := by decide +kernel
theorem dX2_firstBarred_50 : decode cX2_firstBarred 50 = .ok (.iload 6, 2) := by decide +kernel
theorem dX2_firstBarred_52 : decode cX2_firstBarred 52 = .ok (.invokevirtual 71, 3) := by decide +kernel
theorem dX2_firstBarred_55 : decode cX2_firstBarred 55 = .ok (.iconst (-1), 1) := by decide +kernel
theorem dX2_firstBarred_56 : decode cX2_firstBarred 56 = .ok (.if_icmp .eq 7, 3) := by decide +kernel
theorem dX2_firstBarred_59 : decode cX2_firstBarred 59 = .ok (.iconst 1, 1) := by decide +kernel
theorem dX2_firstBarred_60 : decode cX2_firstBarred 60 = .ok (.goto 4, 3) := by decide +kernel
theorem dX2_firstBarred_63 : decode cX2_firstBarred 63 = .ok (.iconst 0, 1) := by decide +kernel
theorem dX2_firstBarred_64 : decode cX2_firstBarred 64 = .ok (.istore 7, 2) := by decide +kernel
theorem dX2_firstBarred_66 : decode cX2_firstBarred 66 = .ok (.iload 7, 2) := by decide +kernel
theorem dX2_firstBarred_68 : decode cX2_firstBarred 68 = .ok (.ifCond .eq 25, 3) := by decide +kernel
theorem dX2_firstBarred_71 : decode cX2_firstBarred 71 = .ok (.iload 4, 2) := by decide +kernel
theorem dX2_firstBarred_73 : decode cX2_firstBarred 73 = .ok (.iconst (-1), 1) := by decide +kernel
theorem dX2_firstBarred_74 : decode cX2_firstBarred 74 = .ok (.if_icmp .eq 15, 3) := by decide +kernel
theorem dX2_firstBarred_77 : decode cX2_firstBarred 77 = .ok (.aload_n 0, 1) := by decide +kernel
theorem dX2_firstBarred_78 : decode cX2_firstBarred 78 = .ok (.aload_n 1, 1) := by decide +kernel
theorem dX2_firstBarred_79 : decode cX2_firstBarred 79 = .ok (.iload 6, 2) := by decide +kernel
theorem dX2_firstBarred_81 : decode cX2_firstBarred 81 = .ok (.iload 4, 2) := by decide +kernel
theorem dX2_firstBarred_83 : decode cX2_firstBarred 83 = .ok (.invokevirtual 75, 3) := by decide +kernel
theorem dX2_firstBarred_86 : decode cX2_firstBarred 86 = .ok (.ifCond .eq 7, 3) := by decide +kernel
theorem dX2_firstBarred_89 : decode cX2_firstBarred 89 = .ok (.iload 6, 2) := by decide +kernel
theorem dX2_firstBarred_91 : decode cX2_firstBarred 91 = .ok (.istore 4, 2) := by decide +kernel
theorem dX2_firstBarred_93 : decode cX2_firstBarred 93 = .ok (.iinc 5 1, 3) := by decide +kernel
theorem dX2_firstBarred_96 : decode cX2_firstBarred 96 = .ok (.goto (-77), 3) := by decide +kernel
theorem dX2_firstBarred_99 : decode cX2_firstBarred 99 = .ok (.iload 4, 2) := by decide +kernel
theorem dX2_firstBarred_101 : decode cX2_firstBarred 101 = .ok (.ireturn, 1) := by decide +kernel
theorem dX2_leastBar_0 : decode cX2_leastBar 0 = .ok (.iconst (-1), 1) := by decide +kernel
theorem dX2_leastBar_1 : decode cX2_leastBar 1 = .ok (.istore_n 3, 1) := by decide +kernel
theorem dX2_leastBar_2 : decode cX2_leastBar 2 = .ok (.iconst 0, 1) := by decide +kernel
theorem dX2_leastBar_3 : decode cX2_leastBar 3 = .ok (.istore 4, 2) := by decide +kernel
theorem dX2_leastBar_5 : decode cX2_leastBar 5 = .ok (.iload 4, 2) := by decide +kernel
theorem dX2_leastBar_7 : decode cX2_leastBar 7 = .ok (.aload_n 0, 1) := by decide +kernel
theorem dX2_leastBar_8 : decode cX2_leastBar 8 = .ok (.getfield 9, 3) := by decide +kernel
theorem dX2_leastBar_11 : decode cX2_leastBar 11 = .ok (.invokevirtual 79, 3) := by decide +kernel
theorem dX2_leastBar_14 : decode cX2_leastBar 14 = .ok (.if_icmp .ge 114, 3) := by decide +kernel
theorem dX2_leastBar_17 : decode cX2_leastBar 17 = .ok (.aload_n 0, 1) := by decide +kernel
theorem dX2_leastBar_18 : decode cX2_leastBar 18 = .ok (.getfield 9, 3) := by decide +kernel
theorem dX2_leastBar_21 : decode cX2_leastBar 21 = .ok (.iload 4, 2) := by decide +kernel
theorem dX2_leastBar_23 : decode cX2_leastBar 23 = .ok (.iconst 2, 1) := by decide +kernel
theorem dX2_leastBar_24 : decode cX2_leastBar 24 = .ok (.invokevirtual 84, 3) := by decide +kernel
theorem dX2_leastBar_27 : decode cX2_leastBar 27 = .ok (.ifCond .eq 16, 3) := by decide +kernel
theorem dX2_leastBar_30 : decode cX2_leastBar 30 = .ok (.aload_n 1, 1) := by decide +kernel
theorem dX2_leastBar_31 : decode cX2_leastBar 31 = .ok (.invokevirtual 43, 3) := by decide +kernel
theorem dX2_leastBar_34 : decode cX2_leastBar 34 = .ok (.iload 4, 2) := by decide +kernel
theorem dX2_leastBar_36 : decode cX2_leastBar 36 = .ok (.iload_n 2, 1) := by decide +kernel
theorem dX2_leastBar_37 : decode cX2_leastBar 37 = .ok (.invokevirtual 88, 3) := by decide +kernel
theorem dX2_leastBar_40 : decode cX2_leastBar 40 = .ok (.goto 4, 3) := by decide +kernel
theorem dX2_leastBar_43 : decode cX2_leastBar 43 = .ok (.iconst 0, 1) := by decide +kernel
theorem dX2_leastBar_44 : decode cX2_leastBar 44 = .ok (.istore 5, 2) := by decide +kernel
theorem dX2_leastBar_46 : decode cX2_leastBar 46 = .ok (.iconst 0, 1) := by decide +kernel
theorem dX2_leastBar_47 : decode cX2_leastBar 47 = .ok (.istore 6, 2) := by decide +kernel
theorem dX2_leastBar_49 : decode cX2_leastBar 49 = .ok (.iload 6, 2) := by decide +kernel
theorem dX2_leastBar_51 : decode cX2_leastBar 51 = .ok (.iload 5, 2) := by decide +kernel
theorem dX2_leastBar_53 : decode cX2_leastBar 53 = .ok (.if_icmp .ge 69, 3) := by decide +kernel
theorem dX2_leastBar_56 : decode cX2_leastBar 56 = .ok (.aload_n 1, 1) := by decide +kernel
theorem dX2_leastBar_57 : decode cX2_leastBar 57 = .ok (.invokevirtual 43, 3) := by decide +kernel
theorem dX2_leastBar_60 : decode cX2_leastBar 60 = .ok (.iload 4, 2) := by decide +kernel
theorem dX2_leastBar_62 : decode cX2_leastBar 62 = .ok (.iload_n 2, 1) := by decide +kernel
theorem dX2_leastBar_63 : decode cX2_leastBar 63 = .ok (.iload 6, 2) := by decide +kernel
theorem dX2_leastBar_65 : decode cX2_leastBar 65 = .ok (.invokevirtual 94, 3) := by decide +kernel
theorem dX2_leastBar_68 : decode cX2_leastBar 68 = .ok (.istore 7, 2) := by decide +kernel
theorem dX2_leastBar_70 : decode cX2_leastBar 70 = .ok (.aload_n 0, 1) := by decide +kernel
theorem dX2_leastBar_71 : decode cX2_leastBar 71 = .ok (.getfield 22, 3) := by decide +kernel
theorem dX2_leastBar_74 : decode cX2_leastBar 74 = .ok (.iload 7, 2) := by decide +kernel
theorem dX2_leastBar_76 : decode cX2_leastBar 76 = .ok (.invokevirtual 67, 3) := by decide +kernel
theorem dX2_leastBar_79 : decode cX2_leastBar 79 = .ok (.ifCond .ne 7, 3) := by decide +kernel
theorem dX2_leastBar_82 : decode cX2_leastBar 82 = .ok (.iconst 1, 1) := by decide +kernel
theorem dX2_leastBar_83 : decode cX2_leastBar 83 = .ok (.goto 4, 3) := by decide +kernel
theorem dX2_leastBar_86 : decode cX2_leastBar 86 = .ok (.iconst 0, 1) := by decide +kernel
theorem dX2_leastBar_87 : decode cX2_leastBar 87 = .ok (.istore 8, 2) := by decide +kernel
theorem dX2_leastBar_89 : decode cX2_leastBar 89 = .ok (.iload 8, 2) := by decide +kernel
theorem dX2_leastBar_91 : decode cX2_leastBar 91 = .ok (.ifCond .eq 25, 3) := by decide +kernel
theorem dX2_leastBar_94 : decode cX2_leastBar 94 = .ok (.iload_n 3, 1) := by decide +kernel
theorem dX2_leastBar_95 : decode cX2_leastBar 95 = .ok (.iconst (-1), 1) := by decide +kernel
theorem dX2_leastBar_96 : decode cX2_leastBar 96 = .ok (.if_icmp .eq 17, 3) := by decide +kernel
theorem dX2_leastBar_99 : decode cX2_leastBar 99 = .ok (.aload_n 1, 1) := by decide +kernel
theorem dX2_leastBar_100 : decode cX2_leastBar 100 = .ok (.iload 7, 2) := by decide +kernel
theorem dX2_leastBar_102 : decode cX2_leastBar 102 = .ok (.invokevirtual 97, 3) := by decide +kernel
theorem dX2_leastBar_105 : decode cX2_leastBar 105 = .ok (.aload_n 1, 1) := by decide +kernel
theorem dX2_leastBar_106 : decode cX2_leastBar 106 = .ok (.iload_n 3, 1) := by decide +kernel
theorem dX2_leastBar_107 : decode cX2_leastBar 107 = .ok (.invokevirtual 97, 3) := by decide +kernel
theorem dX2_leastBar_110 : decode cX2_leastBar 110 = .ok (.if_icmp .ge 6, 3) := by decide +kernel
theorem dX2_leastBar_113 : decode cX2_leastBar 113 = .ok (.iload 7, 2) := by decide +kernel
theorem dX2_leastBar_115 : decode cX2_leastBar 115 = .ok (.istore_n 3, 1) := by decide +kernel
theorem dX2_leastBar_116 : decode cX2_leastBar 116 = .ok (.iinc 6 1, 3) := by decide +kernel
theorem dX2_leastBar_119 : decode cX2_leastBar 119 = .ok (.goto (-70), 3) := by decide +kernel
theorem dX2_leastBar_122 : decode cX2_leastBar 122 = .ok (.iinc 4 1, 3) := by decide +kernel
theorem dX2_leastBar_125 : decode cX2_leastBar 125 = .ok (.goto (-120), 3) := by decide +kernel
theorem dX2_leastBar_128 : decode cX2_leastBar 128 = .ok (.iload_n 3, 1) := by decide +kernel
theorem dX2_leastBar_129 : decode cX2_leastBar 129 = .ok (.ireturn, 1) := by decide +kernel
theorem dX2_removeAll_0 : decode cX2_removeAll 0 = .ok (.iconst 0, 1) := by decide +kernel
theorem dX2_removeAll_1 : decode cX2_removeAll 1 = .ok (.istore_n 2, 1) := by decide +kernel
theorem dX2_removeAll_2 : decode cX2_removeAll 2 = .ok (.iload_n 2, 1) := by decide +kernel
theorem dX2_removeAll_3 : decode cX2_removeAll 3 = .ok (.aload_n 0, 1) := by decide +kernel
theorem dX2_removeAll_4 : decode cX2_removeAll 4 = .ok (.getfield 22, 3) := by decide +kernel
theorem dX2_removeAll_7 : decode cX2_removeAll 7 = .ok (.invokevirtual 39, 3) := by decide +kernel
theorem dX2_removeAll_10 : decode cX2_removeAll 10 = .ok (.if_icmp .ge 21, 3) := by decide +kernel
theorem dX2_removeAll_13 : decode cX2_removeAll 13 = .ok (.aload_n 1, 1) := by decide +kernel
theorem dX2_removeAll_14 : decode cX2_removeAll 14 = .ok (.aload_n 0, 1) := by decide +kernel
theorem dX2_removeAll_15 : decode cX2_removeAll 15 = .ok (.getfield 22, 3) := by decide +kernel
theorem dX2_removeAll_18 : decode cX2_removeAll 18 = .ok (.iload_n 2, 1) := by decide +kernel
theorem dX2_removeAll_19 : decode cX2_removeAll 19 = .ok (.invokevirtual 49, 3) := by decide +kernel
theorem dX2_removeAll_22 : decode cX2_removeAll 22 = .ok (.invokevirtual 100, 3) := by decide +kernel
theorem dX2_removeAll_25 : decode cX2_removeAll 25 = .ok (.iinc 2 1, 3) := by decide +kernel
theorem dX2_removeAll_28 : decode cX2_removeAll 28 = .ok (.goto (-26), 3) := by decide +kernel
theorem dX2_removeAll_31 : decode cX2_removeAll 31 = .ok (.aload_n 0, 1) := by decide +kernel
theorem dX2_removeAll_32 : decode cX2_removeAll 32 = .ok (.getfield 22, 3) := by decide +kernel
theorem dX2_removeAll_35 : decode cX2_removeAll 35 = .ok (.invokevirtual 39, 3) := by decide +kernel
theorem dX2_removeAll_38 : decode cX2_removeAll 38 = .ok (.ireturn, 1) := by decide +kernel
theorem dX2_addThoseWithoutOwner_0 : decode cX2_addThoseWithoutOwner 0 = .ok (.iconst 0, 1) := by decide +kernel
theorem dX2_addThoseWithoutOwner_1 : decode cX2_addThoseWithoutOwner 1 = .ok (.istore_n 2, 1) := by decide +kernel
theorem dX2_addThoseWithoutOwner_2 : decode cX2_addThoseWithoutOwner 2 = .ok (.iload_n 2, 1) := by decide +kernel
theorem dX2_addThoseWithoutOwner_3 : decode cX2_addThoseWithoutOwner 3 = .ok (.aload_n 0, 1) := by decide +kernel
theorem dX2_addThoseWithoutOwner_4 : decode cX2_addThoseWithoutOwner 4 = .ok (.getfield 26, 3) := by decide +kernel
theorem dX2_addThoseWithoutOwner_7 : decode cX2_addThoseWithoutOwner 7 = .ok (.invokevirtual 39, 3) := by decide +kernel
theorem dX2_addThoseWithoutOwner_10 : decode cX2_addThoseWithoutOwner 10 = .ok (.if_icmp .ge 61, 3) := by decide +kernel
theorem dX2_addThoseWithoutOwner_13 : decode cX2_addThoseWithoutOwner 13 = .ok (.aload_n 0, 1) := by decide +kernel
theorem dX2_addThoseWithoutOwner_14 : decode cX2_addThoseWithoutOwner 14 = .ok (.getfield 29, 3) := by decide +kernel
theorem dX2_addThoseWithoutOwner_17 : decode cX2_addThoseWithoutOwner 17 = .ok (.invokevirtual 32, 3) := by decide +kernel
theorem dX2_addThoseWithoutOwner_20 : decode cX2_addThoseWithoutOwner 20 = .ok (.aload_n 0, 1) := by decide +kernel
theorem dX2_addThoseWithoutOwner_21 : decode cX2_addThoseWithoutOwner 21 = .ok (.getfield 15, 3) := by decide +kernel
theorem dX2_addThoseWithoutOwner_24 : decode cX2_addThoseWithoutOwner 24 = .ok (.aload_n 1, 1) := by decide +kernel
theorem dX2_addThoseWithoutOwner_25 : decode cX2_addThoseWithoutOwner 25 = .ok (.invokevirtual 103, 3) := by decide +kernel
theorem dX2_addThoseWithoutOwner_28 : decode cX2_addThoseWithoutOwner 28 = .ok (.aload_n 0, 1) := by decide +kernel
theorem dX2_addThoseWithoutOwner_29 : decode cX2_addThoseWithoutOwner 29 = .ok (.getfield 26, 3) := by decide +kernel
theorem dX2_addThoseWithoutOwner_32 : decode cX2_addThoseWithoutOwner 32 = .ok (.iload_n 2, 1) := by decide +kernel
theorem dX2_addThoseWithoutOwner_33 : decode cX2_addThoseWithoutOwner 33 = .ok (.invokevirtual 49, 3) := by decide +kernel
theorem dX2_addThoseWithoutOwner_36 : decode cX2_addThoseWithoutOwner 36 = .ok (.aload_n 0, 1) := by decide +kernel
theorem dX2_addThoseWithoutOwner_37 : decode cX2_addThoseWithoutOwner 37 = .ok (.getfield 29, 3) := by decide +kernel
theorem dX2_addThoseWithoutOwner_40 : decode cX2_addThoseWithoutOwner 40 = .ok (.invokevirtual 53, 3) := by decide +kernel
theorem dX2_addThoseWithoutOwner_43 : decode cX2_addThoseWithoutOwner 43 = .ok (.aload_n 0, 1) := by decide +kernel
theorem dX2_addThoseWithoutOwner_44 : decode cX2_addThoseWithoutOwner 44 = .ok (.invokevirtual 106, 3) := by decide +kernel
theorem dX2_addThoseWithoutOwner_47 : decode cX2_addThoseWithoutOwner 47 = .ok (.ifCond .eq 18, 3) := by decide +kernel
theorem dX2_addThoseWithoutOwner_50 : decode cX2_addThoseWithoutOwner 50 = .ok (.aload_n 0, 1) := by decide +kernel
theorem dX2_addThoseWithoutOwner_51 : decode cX2_addThoseWithoutOwner 51 = .ok (.getfield 22, 3) := by decide +kernel
theorem dX2_addThoseWithoutOwner_54 : decode cX2_addThoseWithoutOwner 54 = .ok (.aload_n 0, 1) := by decide +kernel
theorem dX2_addThoseWithoutOwner_55 : decode cX2_addThoseWithoutOwner 55 = .ok (.getfield 26, 3) := by decide +kernel
theorem dX2_addThoseWithoutOwner_58 : decode cX2_addThoseWithoutOwner 58 = .ok (.iload_n 2, 1) := by decide +kernel
theorem dX2_addThoseWithoutOwner_59 : decode cX2_addThoseWithoutOwner 59 = .ok (.invokevirtual 49, 3) := by decide +kernel
theorem dX2_addThoseWithoutOwner_62 : decode cX2_addThoseWithoutOwner 62 = .ok (.invokevirtual 35, 3) := by decide +kernel
theorem dX2_addThoseWithoutOwner_65 : decode cX2_addThoseWithoutOwner 65 = .ok (.iinc 2 1, 3) := by decide +kernel
theorem dX2_addThoseWithoutOwner_68 : decode cX2_addThoseWithoutOwner 68 = .ok (.goto (-66), 3) := by decide +kernel
theorem dX2_addThoseWithoutOwner_71 : decode cX2_addThoseWithoutOwner 71 = .ok (.return_, 1) := by decide +kernel
theorem dX2_areOwnersGone_0 : decode cX2_areOwnersGone 0 = .ok (.iconst 0, 1) := by decide +kernel
theorem dX2_areOwnersGone_1 : decode cX2_areOwnersGone 1 = .ok (.istore_n 1, 1) := by decide +kernel
theorem dX2_areOwnersGone_2 : decode cX2_areOwnersGone 2 = .ok (.iload_n 1, 1) := by decide +kernel
theorem dX2_areOwnersGone_3 : decode cX2_areOwnersGone 3 = .ok (.aload_n 0, 1) := by decide +kernel
theorem dX2_areOwnersGone_4 : decode cX2_areOwnersGone 4 = .ok (.getfield 29, 3) := by decide +kernel
theorem dX2_areOwnersGone_7 : decode cX2_areOwnersGone 7 = .ok (.invokevirtual 39, 3) := by decide +kernel
theorem dX2_areOwnersGone_10 : decode cX2_areOwnersGone 10 = .ok (.if_icmp .ge 29, 3) := by decide +kernel
theorem dX2_areOwnersGone_13 : decode cX2_areOwnersGone 13 = .ok (.aload_n 0, 1) := by decide +kernel
theorem dX2_areOwnersGone_14 : decode cX2_areOwnersGone 14 = .ok (.getfield 22, 3) := by decide +kernel
theorem dX2_areOwnersGone_17 : decode cX2_areOwnersGone 17 = .ok (.aload_n 0, 1) := by decide +kernel
theorem dX2_areOwnersGone_18 : decode cX2_areOwnersGone 18 = .ok (.getfield 29, 3) := by decide +kernel
theorem dX2_areOwnersGone_21 : decode cX2_areOwnersGone 21 = .ok (.iload_n 1, 1) := by decide +kernel
theorem dX2_areOwnersGone_22 : decode cX2_areOwnersGone 22 = .ok (.invokevirtual 49, 3) := by decide +kernel
theorem dX2_areOwnersGone_25 : decode cX2_areOwnersGone 25 = .ok (.invokevirtual 67, 3) := by decide +kernel
theorem dX2_areOwnersGone_28 : decode cX2_areOwnersGone 28 = .ok (.ifCond .ne 5, 3) := by decide +kernel
theorem dX2_areOwnersGone_31 : decode cX2_areOwnersGone 31 = .ok (.iconst 0, 1) := by decide +kernel
theorem dX2_areOwnersGone_32 : decode cX2_areOwnersGone 32 = .ok (.ireturn, 1) := by decide +kernel
theorem dX2_areOwnersGone_33 : decode cX2_areOwnersGone 33 = .ok (.iinc 1 1, 3) := by decide +kernel
theorem dX2_areOwnersGone_36 : decode cX2_areOwnersGone 36 = .ok (.goto (-34), 3) := by decide +kernel
theorem dX2_areOwnersGone_39 : decode cX2_areOwnersGone 39 = .ok (.iconst 1, 1) := by decide +kernel
theorem dX2_areOwnersGone_40 : decode cX2_areOwnersGone 40 = .ok (.ireturn, 1) := by decide +kernel
theorem dX2_isBefore_0 : decode cX2_isBefore 0 = .ok (.aload_n 0, 1) := by decide +kernel
theorem dX2_isBefore_1 : decode cX2_isBefore 1 = .ok (.getfield 15, 3) := by decide +kernel
theorem dX2_isBefore_4 : decode cX2_isBefore 4 = .ok (.iload_n 2, 1) := by decide +kernel
theorem dX2_isBefore_5 : decode cX2_isBefore 5 = .ok (.invokevirtual 110, 3) := by decide +kernel
theorem dX2_isBefore_8 : decode cX2_isBefore 8 = .ok (.istore 4, 2) := by decide +kernel
theorem dX2_isBefore_10 : decode cX2_isBefore 10 = .ok (.aload_n 0, 1) := by decide +kernel
theorem dX2_isBefore_11 : decode cX2_isBefore 11 = .ok (.getfield 15, 3) := by decide +kernel
theorem dX2_isBefore_14 : decode cX2_isBefore 14 = .ok (.iload_n 3, 1) := by decide +kernel
theorem dX2_isBefore_15 : decode cX2_isBefore 15 = .ok (.invokevirtual 110, 3) := by decide +kernel
theorem dX2_isBefore_18 : decode cX2_isBefore 18 = .ok (.istore 5, 2) := by decide +kernel
theorem dX2_isBefore_20 : decode cX2_isBefore 20 = .ok (.iload 4, 2) := by decide +kernel
theorem dX2_isBefore_22 : decode cX2_isBefore 22 = .ok (.iload 5, 2) := by decide +kernel
theorem dX2_isBefore_24 : decode cX2_isBefore 24 = .ok (.if_icmp .lt 23, 3) := by decide +kernel
theorem dX2_isBefore_27 : decode cX2_isBefore 27 = .ok (.iload 4, 2) := by decide +kernel
theorem dX2_isBefore_29 : decode cX2_isBefore 29 = .ok (.iload 5, 2) := by decide +kernel
theorem dX2_isBefore_31 : decode cX2_isBefore 31 = .ok (.if_icmp .ne 20, 3) := by decide +kernel
theorem dX2_isBefore_34 : decode cX2_isBefore 34 = .ok (.aload_n 1, 1) := by decide +kernel
theorem dX2_isBefore_35 : decode cX2_isBefore 35 = .ok (.iload_n 2, 1) := by decide +kernel
theorem dX2_isBefore_36 : decode cX2_isBefore 36 = .ok (.invokevirtual 97, 3) := by decide +kernel
theorem dX2_isBefore_39 : decode cX2_isBefore 39 = .ok (.aload_n 1, 1) := by decide +kernel
theorem dX2_isBefore_40 : decode cX2_isBefore 40 = .ok (.iload_n 3, 1) := by decide +kernel
theorem dX2_isBefore_41 : decode cX2_isBefore 41 = .ok (.invokevirtual 97, 3) := by decide +kernel
theorem dX2_isBefore_44 : decode cX2_isBefore 44 = .ok (.if_icmp .ge 7, 3) := by decide +kernel
theorem dX2_isBefore_47 : decode cX2_isBefore 47 = .ok (.iconst 1, 1) := by decide +kernel
theorem dX2_isBefore_48 : decode cX2_isBefore 48 = .ok (.goto 4, 3) := by decide +kernel
theorem dX2_isBefore_51 : decode cX2_isBefore 51 = .ok (.iconst 0, 1) := by decide +kernel
theorem dX2_isBefore_52 : decode cX2_isBefore 52 = .ok (.ireturn, 1) := by decide +kernel
theorem dX3_init_0 : decode cX3_init 0 = .ok (.aload_n 0, 1) := by decide +kernel
theorem dX3_init_1 : decode cX3_init 1 = .ok (.invokespecial 3, 3) := by decide +kernel
theorem dX3_init_4 : decode cX3_init 4 = .ok (.aload_n 0, 1) := by decide +kernel
theorem dX3_init_5 : decode cX3_init 5 = .ok (.sipush 2000, 3) := by decide +kernel
theorem dX3_init_8 : decode cX3_init 8 = .ok (.newarray .long, 2) := by decide +kernel
theorem dX3_init_10 : decode cX3_init 10 = .ok (.putfield 11, 3) := by decide +kernel
theorem dX3_init_13 : decode cX3_init 13 = .ok (.aload_n 0, 1) := by decide +kernel
theorem dX3_init_14 : decode cX3_init 14 = .ok (.sipush 1000, 3) := by decide +kernel
theorem dX3_init_17 : decode cX3_init 17 = .ok (.newarray .int, 2) := by decide +kernel
theorem dX3_init_19 : decode cX3_init 19 = .ok (.putfield 15, 3) := by decide +kernel
theorem dX3_init_22 : decode cX3_init 22 = .ok (.return_, 1) := by decide +kernel
theorem dX3_lengthOf_0 : decode cX3_lengthOf 0 = .ok (.iload_n 1, 1) := by decide +kernel
theorem dX3_lengthOf_1 : decode cX3_lengthOf 1 = .ok (.iload_n 2, 1) := by decide +kernel
theorem dX3_lengthOf_2 : decode cX3_lengthOf 2 = .ok (.invokestatic 19, 3) := by decide +kernel
theorem dX3_lengthOf_5 : decode cX3_lengthOf 5 = .ok (.ifCond .eq 16, 3) := by decide +kernel
theorem dX3_lengthOf_8 : decode cX3_lengthOf 8 = .ok (.aload_n 0, 1) := by decide +kernel
theorem dX3_lengthOf_9 : decode cX3_lengthOf 9 = .ok (.getfield 15, 3) := by decide +kernel
theorem dX3_lengthOf_12 : decode cX3_lengthOf 12 = .ok (.iload_n 1, 1) := by decide +kernel
theorem dX3_lengthOf_13 : decode cX3_lengthOf 13 = .ok (.iload_n 2, 1) := by decide +kernel
theorem dX3_lengthOf_14 : decode cX3_lengthOf 14 = .ok (.invokestatic 23, 3) := by decide +kernel
theorem dX3_lengthOf_17 : decode cX3_lengthOf 17 = .ok (.iaload, 1) := by decide +kernel
theorem dX3_lengthOf_18 : decode cX3_lengthOf 18 = .ok (.goto 4, 3) := by decide +kernel
theorem dX3_lengthOf_21 : decode cX3_lengthOf 21 = .ok (.iconst 0, 1) := by decide +kernel
theorem dX3_lengthOf_22 : decode cX3_lengthOf 22 = .ok (.ireturn, 1) := by decide +kernel
theorem dX3_get_0 : decode cX3_get 0 = .ok (.iload_n 3, 1) := by decide +kernel
theorem dX3_get_1 : decode cX3_get 1 = .ok (.ifCond .lt 26, 3) := by decide +kernel
theorem dX3_get_4 : decode cX3_get 4 = .ok (.iload_n 3, 1) := by decide +kernel
theorem dX3_get_5 : decode cX3_get 5 = .ok (.aload_n 0, 1) := by decide +kernel
theorem dX3_get_6 : decode cX3_get 6 = .ok (.iload_n 1, 1) := by decide +kernel
theorem dX3_get_7 : decode cX3_get 7 = .ok (.iload_n 2, 1) := by decide +kernel
theorem dX3_get_8 : decode cX3_get 8 = .ok (.invokevirtual 27, 3) := by decide +kernel
theorem dX3_get_11 : decode cX3_get 11 = .ok (.if_icmp .ge 16, 3) := by decide +kernel
theorem dX3_get_14 : decode cX3_get 14 = .ok (.aload_n 0, 1) := by decide +kernel
theorem dX3_get_15 : decode cX3_get 15 = .ok (.iload_n 1, 1) := by decide +kernel
theorem dX3_get_16 : decode cX3_get 16 = .ok (.iload_n 2, 1) := by decide +kernel
theorem dX3_get_17 : decode cX3_get 17 = .ok (.invokestatic 23, 3) := by decide +kernel
theorem dX3_get_20 : decode cX3_get 20 = .ok (.iload_n 3, 1) := by decide +kernel
theorem dX3_get_21 : decode cX3_get 21 = .ok (.invokevirtual 30, 3) := by decide +kernel
theorem dX3_get_24 : decode cX3_get 24 = .ok (.goto 4, 3) := by decide +kernel
theorem dX3_get_27 : decode cX3_get 27 = .ok (.iconst (-1), 1) := by decide +kernel
theorem dX3_get_28 : decode cX3_get 28 = .ok (.ireturn, 1) := by decide +kernel
theorem dX3_holds_0 : decode cX3_holds 0 = .ok (.aload_n 0, 1) := by decide +kernel
theorem dX3_holds_1 : decode cX3_holds 1 = .ok (.iload_n 1, 1) := by decide +kernel
theorem dX3_holds_2 : decode cX3_holds 2 = .ok (.iload_n 2, 1) := by decide +kernel
theorem dX3_holds_3 : decode cX3_holds 3 = .ok (.invokevirtual 27, 3) := by decide +kernel
theorem dX3_holds_6 : decode cX3_holds 6 = .ok (.istore 4, 2) := by decide +kernel
theorem dX3_holds_8 : decode cX3_holds 8 = .ok (.iconst 0, 1) := by decide +kernel
theorem dX3_holds_9 : decode cX3_holds 9 = .ok (.istore 5, 2) := by decide +kernel
theorem dX3_holds_11 : decode cX3_holds 11 = .ok (.iload 5, 2) := by decide +kernel
theorem dX3_holds_13 : decode cX3_holds 13 = .ok (.iload 4, 2) := by decide +kernel
theorem dX3_holds_15 : decode cX3_holds 15 = .ok (.if_icmp .ge 26, 3) := by decide +kernel
theorem dX3_holds_18 : decode cX3_holds 18 = .ok (.aload_n 0, 1) := by decide +kernel
theorem dX3_holds_19 : decode cX3_holds 19 = .ok (.iload_n 1, 1) := by decide +kernel
theorem dX3_holds_20 : decode cX3_holds 20 = .ok (.iload_n 2, 1) := by decide +kernel
theorem dX3_holds_21 : decode cX3_holds 21 = .ok (.invokestatic 23, 3) := by decide +kernel
theorem dX3_holds_24 : decode cX3_holds 24 = .ok (.iload 5, 2) := by decide +kernel
theorem dX3_holds_26 : decode cX3_holds 26 = .ok (.invokevirtual 30, 3) := by decide +kernel
theorem dX3_holds_29 : decode cX3_holds 29 = .ok (.iload_n 3, 1) := by decide +kernel
theorem dX3_holds_30 : decode cX3_holds 30 = .ok (.if_icmp .ne 5, 3) := by decide +kernel
theorem dX3_holds_33 : decode cX3_holds 33 = .ok (.iconst 1, 1) := by decide +kernel
theorem dX3_holds_34 : decode cX3_holds 34 = .ok (.ireturn, 1) := by decide +kernel
theorem dX3_holds_35 : decode cX3_holds 35 = .ok (.iinc 5 1, 3) := by decide +kernel
theorem dX3_holds_38 : decode cX3_holds 38 = .ok (.goto (-27), 3) := by decide +kernel
theorem dX3_holds_41 : decode cX3_holds 41 = .ok (.iconst 0, 1) := by decide +kernel
theorem dX3_holds_42 : decode cX3_holds 42 = .ok (.ireturn, 1) := by decide +kernel
theorem dX3_addTo_0 : decode cX3_addTo 0 = .ok (.aload_n 0, 1) := by decide +kernel
theorem dX3_addTo_1 : decode cX3_addTo 1 = .ok (.iload_n 2, 1) := by decide +kernel
theorem dX3_addTo_2 : decode cX3_addTo 2 = .ok (.iload_n 3, 1) := by decide +kernel
theorem dX3_addTo_3 : decode cX3_addTo 3 = .ok (.invokevirtual 27, 3) := by decide +kernel
theorem dX3_addTo_6 : decode cX3_addTo 6 = .ok (.istore 4, 2) := by decide +kernel
theorem dX3_addTo_8 : decode cX3_addTo 8 = .ok (.iconst 0, 1) := by decide +kernel
theorem dX3_addTo_9 : decode cX3_addTo 9 = .ok (.istore 5, 2) := by decide +kernel
theorem dX3_addTo_11 : decode cX3_addTo 11 = .ok (.iload 5, 2) := by decide +kernel
theorem dX3_addTo_13 : decode cX3_addTo 13 = .ok (.iload 4, 2) := by decide +kernel
theorem dX3_addTo_15 : decode cX3_addTo 15 = .ok (.if_icmp .ge 24, 3) := by decide +kernel
theorem dX3_addTo_18 : decode cX3_addTo 18 = .ok (.aload_n 1, 1) := by decide +kernel
theorem dX3_addTo_19 : decode cX3_addTo 19 = .ok (.aload_n 0, 1) := by decide +kernel
theorem dX3_addTo_20 : decode cX3_addTo 20 = .ok (.iload_n 2, 1) := by decide +kernel
theorem dX3_addTo_21 : decode cX3_addTo 21 = .ok (.iload_n 3, 1) := by decide +kernel
theorem dX3_addTo_22 : decode cX3_addTo 22 = .ok (.invokestatic 23, 3) := by decide +kernel
theorem dX3_addTo_25 : decode cX3_addTo 25 = .ok (.iload 5, 2) := by decide +kernel
theorem dX3_addTo_27 : decode cX3_addTo 27 = .ok (.invokevirtual 30, 3) := by decide +kernel
theorem dX3_addTo_30 : decode cX3_addTo 30 = .ok (.invokevirtual 33, 3) := by decide +kernel
theorem dX3_addTo_33 : decode cX3_addTo 33 = .ok (.iinc 5 1, 3) := by decide +kernel
theorem dX3_addTo_36 : decode cX3_addTo 36 = .ok (.goto (-25), 3) := by decide +kernel
theorem dX3_addTo_39 : decode cX3_addTo 39 = .ok (.return_, 1) := by decide +kernel
theorem dX3_insert_0 : decode cX3_insert 0 = .ok (.iload_n 1, 1) := by decide +kernel
theorem dX3_insert_1 : decode cX3_insert 1 = .ok (.iload_n 2, 1) := by decide +kernel
theorem dX3_insert_2 : decode cX3_insert 2 = .ok (.invokestatic 19, 3) := by decide +kernel
theorem dX3_insert_5 : decode cX3_insert 5 = .ok (.ifCond .eq 11, 3) := by decide +kernel
theorem dX3_insert_8 : decode cX3_insert 8 = .ok (.iload 4, 2) := by decide +kernel
theorem dX3_insert_10 : decode cX3_insert 10 = .ok (.invokestatic 39, 3) := by decide +kernel
theorem dX3_insert_13 : decode cX3_insert 13 = .ok (.ifCond .ne 4, 3) := by decide +kernel
theorem dX3_insert_16 : decode cX3_insert 16 = .ok (.return_, 1) := by decide +kernel
theorem dX3_insert_17 : decode cX3_insert 17 = .ok (.iload_n 1, 1) := by decide +kernel
theorem dX3_insert_18 : decode cX3_insert 18 = .ok (.iload_n 2, 1) := by decide +kernel
theorem dX3_insert_19 : decode cX3_insert 19 = .ok (.invokestatic 23, 3) := by decide +kernel
theorem dX3_insert_22 : decode cX3_insert 22 = .ok (.istore 5, 2) := by decide +kernel
theorem dX3_insert_24 : decode cX3_insert 24 = .ok (.aload_n 0, 1) := by decide +kernel
theorem dX3_insert_25 : decode cX3_insert 25 = .ok (.getfield 15, 3) := by decide +kernel
theorem dX3_insert_28 : decode cX3_insert 28 = .ok (.iload 5, 2) := by decide +kernel
theorem dX3_insert_30 : decode cX3_insert 30 = .ok (.iaload, 1) := by decide +kernel
theorem dX3_insert_31 : decode cX3_insert 31 = .ok (.istore 6, 2) := by decide +kernel
theorem dX3_insert_33 : decode cX3_insert 33 = .ok (.iload_n 3, 1) := by decide +kernel
theorem dX3_insert_34 : decode cX3_insert 34 = .ok (.ifCond .lt 16, 3) := by decide +kernel
theorem dX3_insert_37 : decode cX3_insert 37 = .ok (.iload_n 3, 1) := by decide +kernel
theorem dX3_insert_38 : decode cX3_insert 38 = .ok (.iload 6, 2) := by decide +kernel
theorem dX3_insert_40 : decode cX3_insert 40 = .ok (.if_icmp .gt 10, 3) := by decide +kernel
theorem dX3_insert_43 : decode cX3_insert 43 = .ok (.iload 6, 2) := by decide +kernel
theorem dX3_insert_45 : decode cX3_insert 45 = .ok (.bipush 12, 2) := by decide +kernel
theorem dX3_insert_47 : decode cX3_insert 47 = .ok (.if_icmp .lt 4, 3) := by decide +kernel
theorem dX3_insert_50 : decode cX3_insert 50 = .ok (.return_, 1) := by decide +kernel
theorem dX3_insert_51 : decode cX3_insert 51 = .ok (.iload 6, 2) := by decide +kernel
theorem dX3_insert_53 : decode cX3_insert 53 = .ok (.istore 7, 2) := by decide +kernel
theorem dX3_insert_55 : decode cX3_insert 55 = .ok (.iload 7, 2) := by decide +kernel
theorem dX3_insert_57 : decode cX3_insert 57 = .ok (.iload_n 3, 1) := by decide +kernel
theorem dX3_insert_58 : decode cX3_insert 58 = .ok (.if_icmp .le 27, 3) := by decide +kernel
theorem dX3_insert_61 : decode cX3_insert 61 = .ok (.aload_n 0, 1) := by decide +kernel
theorem dX3_insert_62 : decode cX3_insert 62 = .ok (.iload 5, 2) := by decide +kernel
theorem dX3_insert_64 : decode cX3_insert 64 = .ok (.iload 7, 2) := by decide +kernel
theorem dX3_insert_66 : decode cX3_insert 66 = .ok (.aload_n 0, 1) := by decide +kernel
theorem dX3_insert_67 : decode cX3_insert 67 = .ok (.iload 5, 2) := by decide +kernel
theorem dX3_insert_69 : decode cX3_insert 69 = .ok (.iload 7, 2) := by decide +kernel
theorem dX3_insert_71 : decode cX3_insert 71 = .ok (.iconst 1, 1) := by decide +kernel
theorem dX3_insert_72 : decode cX3_insert 72 = .ok (.isub, 1) := by decide +kernel
theorem dX3_insert_73 : decode cX3_insert 73 = .ok (.invokevirtual 30, 3) := by decide +kernel
theorem dX3_insert_76 : decode cX3_insert 76 = .ok (.invokevirtual 43, 3) := by decide +kernel
theorem dX3_insert_79 : decode cX3_insert 79 = .ok (.iinc 7 (-1), 3) := by decide +kernel
theorem dX3_insert_82 : decode cX3_insert 82 = .ok (.goto (-27), 3) := by decide +kernel
theorem dX3_insert_85 : decode cX3_insert 85 = .ok (.aload_n 0, 1) := by decide +kernel
theorem dX3_insert_86 : decode cX3_insert 86 = .ok (.iload 5, 2) := by decide +kernel
theorem dX3_insert_88 : decode cX3_insert 88 = .ok (.iload_n 3, 1) := by decide +kernel
theorem dX3_insert_89 : decode cX3_insert 89 = .ok (.iload 4, 2) := by decide +kernel
theorem dX3_insert_91 : decode cX3_insert 91 = .ok (.invokevirtual 43, 3) := by decide +kernel
theorem dX3_insert_94 : decode cX3_insert 94 = .ok (.aload_n 0, 1) := by decide +kernel
theorem dX3_insert_95 : decode cX3_insert 95 = .ok (.getfield 15, 3) := by decide +kernel
theorem dX3_insert_98 : decode cX3_insert 98 = .ok (.iload 5, 2) := by decide +kernel
theorem dX3_insert_100 : decode cX3_insert 100 = .ok (.iload 6, 2) := by decide +kernel
theorem dX3_insert_102 : decode cX3_insert 102 = .ok (.iconst 1, 1) := by decide +kernel
theorem dX3_insert_103 : decode cX3_insert 103 = .ok (.iadd, 1) := by decide +kernel
theorem dX3_insert_104 : decode cX3_insert 104 = .ok (.iastore, 1) := by decide +kernel
theorem dX3_insert_105 : decode cX3_insert 105 = .ok (.return_, 1) := by decide +kernel
theorem dX3_append_0 : decode cX3_append 0 = .ok (.aload_n 0, 1) := by decide +kernel
theorem dX3_append_1 : decode cX3_append 1 = .ok (.iload_n 1, 1) := by decide +kernel
theorem dX3_append_2 : decode cX3_append 2 = .ok (.iload_n 2, 1) := by decide +kernel
theorem dX3_append_3 : decode cX3_append 3 = .ok (.aload_n 0, 1) := by decide +kernel
theorem dX3_append_4 : decode cX3_append 4 = .ok (.iload_n 1, 1) := by decide +kernel
theorem dX3_append_5 : decode cX3_append 5 = .ok (.iload_n 2, 1) := by decide +kernel
theorem dX3_append_6 : decode cX3_append 6 = .ok (.invokevirtual 27, 3) := by decide +kernel
theorem dX3_append_9 : decode cX3_append 9 = .ok (.iload_n 3, 1) := by decide +kernel
theorem dX3_append_10 : decode cX3_append 10 = .ok (.invokevirtual 47, 3) := by decide +kernel
theorem dX3_append_13 : decode cX3_append 13 = .ok (.return_, 1) := by decide +kernel
theorem dX3_remove_0 : decode cX3_remove 0 = .ok (.iload_n 1, 1) := by decide +kernel
theorem dX3_remove_1 : decode cX3_remove 1 = .ok (.iload_n 2, 1) := by decide +kernel
theorem dX3_remove_2 : decode cX3_remove 2 = .ok (.invokestatic 19, 3) := by decide +kernel
theorem dX3_remove_5 : decode cX3_remove 5 = .ok (.ifCond .ne 5, 3) := by decide +kernel
theorem dX3_remove_8 : decode cX3_remove 8 = .ok (.iconst 0, 1) := by decide +kernel
theorem dX3_remove_9 : decode cX3_remove 9 = .ok (.ireturn, 1) := by decide +kernel
theorem dX3_remove_10 : decode cX3_remove 10 = .ok (.iload_n 1, 1) := by decide +kernel
theorem dX3_remove_11 : decode cX3_remove 11 = .ok (.iload_n 2, 1) := by decide +kernel
theorem dX3_remove_12 : decode cX3_remove 12 = .ok (.invokestatic 23, 3) := by decide +kernel
theorem dX3_remove_15 : decode cX3_remove 15 = .ok (.istore 4, 2) := by decide +kernel
theorem dX3_remove_17 : decode cX3_remove 17 = .ok (.aload_n 0, 1) := by decide +kernel
theorem dX3_remove_18 : decode cX3_remove 18 = .ok (.getfield 15, 3) := by decide +kernel
theorem dX3_remove_21 : decode cX3_remove 21 = .ok (.iload 4, 2) := by decide +kernel
theorem dX3_remove_23 : decode cX3_remove 23 = .ok (.iaload, 1) := by decide +kernel
theorem dX3_remove_24 : decode cX3_remove 24 = .ok (.istore 5, 2) := by decide +kernel
theorem dX3_remove_26 : decode cX3_remove 26 = .ok (.iconst 0, 1) := by decide +kernel
theorem dX3_remove_27 : decode cX3_remove 27 = .ok (.istore 6, 2) := by decide +kernel
theorem dX3_remove_29 : decode cX3_remove 29 = .ok (.iconst 0, 1) := by decide +kernel
theorem dX3_remove_30 : decode cX3_remove 30 = .ok (.istore 7, 2) := by decide +kernel
theorem dX3_remove_32 : decode cX3_remove 32 = .ok (.iload 7, 2) := by decide +kernel
theorem dX3_remove_34 : decode cX3_remove 34 = .ok (.iload 5, 2) := by decide +kernel
theorem dX3_remove_36 : decode cX3_remove 36 = .ok (.if_icmp .ge 38, 3) := by decide +kernel
theorem dX3_remove_39 : decode cX3_remove 39 = .ok (.aload_n 0, 1) := by decide +kernel
theorem dX3_remove_40 : decode cX3_remove 40 = .ok (.iload 4, 2) := by decide +kernel
theorem dX3_remove_42 : decode cX3_remove 42 = .ok (.iload 7, 2) := by decide +kernel
theorem dX3_remove_44 : decode cX3_remove 44 = .ok (.invokevirtual 30, 3) := by decide +kernel
theorem dX3_remove_47 : decode cX3_remove 47 = .ok (.istore 8, 2) := by decide +kernel
theorem dX3_remove_49 : decode cX3_remove 49 = .ok (.iload 8, 2) := by decide +kernel
theorem dX3_remove_51 : decode cX3_remove 51 = .ok (.iload_n 3, 1) := by decide +kernel
theorem dX3_remove_52 : decode cX3_remove 52 = .ok (.if_icmp .eq 16, 3) := by decide +kernel
theorem dX3_remove_55 : decode cX3_remove 55 = .ok (.aload_n 0, 1) := by decide +kernel
theorem dX3_remove_56 : decode cX3_remove 56 = .ok (.iload 4, 2) := by decide +kernel
theorem dX3_remove_58 : decode cX3_remove 58 = .ok (.iload 6, 2) := by decide +kernel
theorem dX3_remove_60 : decode cX3_remove 60 = .ok (.iload 8, 2) := by decide +kernel
theorem dX3_remove_62 : decode cX3_remove 62 = .ok (.invokevirtual 43, 3) := by decide +kernel
theorem dX3_remove_65 : decode cX3_remove 65 = .ok (.iinc 6 1, 3) := by decide +kernel
theorem dX3_remove_68 : decode cX3_remove 68 = .ok (.iinc 7 1, 3) := by decide +kernel
theorem dX3_remove_71 : decode cX3_remove 71 = .ok (.goto (-39), 3) := by decide +kernel
theorem dX3_remove_74 : decode cX3_remove 74 = .ok (.aload_n 0, 1) := by decide +kernel
theorem dX3_remove_75 : decode cX3_remove 75 = .ok (.getfield 15, 3) := by decide +kernel
theorem dX3_remove_78 : decode cX3_remove 78 = .ok (.iload 4, 2) := by decide +kernel
theorem dX3_remove_80 : decode cX3_remove 80 = .ok (.iload 6, 2) := by decide +kernel
theorem dX3_remove_82 : decode cX3_remove 82 = .ok (.iastore, 1) := by decide +kernel
theorem dX3_remove_83 : decode cX3_remove 83 = .ok (.iload 6, 2) := by decide +kernel
theorem dX3_remove_85 : decode cX3_remove 85 = .ok (.iload 5, 2) := by decide +kernel
theorem dX3_remove_87 : decode cX3_remove 87 = .ok (.if_icmp .ge 7, 3) := by decide +kernel
theorem dX3_remove_90 : decode cX3_remove 90 = .ok (.iconst 1, 1) := by decide +kernel
theorem dX3_remove_91 : decode cX3_remove 91 = .ok (.goto 4, 3) := by decide +kernel
theorem dX3_remove_94 : decode cX3_remove 94 = .ok (.iconst 0, 1) := by decide +kernel
theorem dX3_remove_95 : decode cX3_remove 95 = .ok (.ireturn, 1) := by decide +kernel
theorem dX3_takeFrom_0 : decode cX3_takeFrom 0 = .ok (.aload_n 1, 1) := by decide +kernel
theorem dX3_takeFrom_1 : decode cX3_takeFrom 1 = .ok (.getfield 11, 3) := by decide +kernel
theorem dX3_takeFrom_4 : decode cX3_takeFrom 4 = .ok (.iconst 0, 1) := by decide +kernel
theorem dX3_takeFrom_5 : decode cX3_takeFrom 5 = .ok (.aload_n 0, 1) := by decide +kernel
theorem dX3_takeFrom_6 : decode cX3_takeFrom 6 = .ok (.getfield 11, 3) := by decide +kernel
theorem dX3_takeFrom_9 : decode cX3_takeFrom 9 = .ok (.iconst 0, 1) := by decide +kernel
theorem dX3_takeFrom_10 : decode cX3_takeFrom 10 = .ok (.aload_n 0, 1) := by decide +kernel
theorem dX3_takeFrom_11 : decode cX3_takeFrom 11 = .ok (.getfield 11, 3) := by decide +kernel
theorem dX3_takeFrom_14 : decode cX3_takeFrom 14 = .ok (.arraylength, 1) := by decide +kernel
theorem dX3_takeFrom_15 : decode cX3_takeFrom 15 = .ok (.invokestatic 51, 3) := by decide +kernel
theorem dX3_takeFrom_18 : decode cX3_takeFrom 18 = .ok (.aload_n 1, 1) := by decide +kernel
theorem dX3_takeFrom_19 : decode cX3_takeFrom 19 = .ok (.getfield 15, 3) := by decide +kernel
theorem dX3_takeFrom_22 : decode cX3_takeFrom 22 = .ok (.iconst 0, 1) := by decide +kernel
theorem dX3_takeFrom_23 : decode cX3_takeFrom 23 = .ok (.aload_n 0, 1) := by decide +kernel
theorem dX3_takeFrom_24 : decode cX3_takeFrom 24 = .ok (.getfield 15, 3) := by decide +kernel
theorem dX3_takeFrom_27 : decode cX3_takeFrom 27 = .ok (.iconst 0, 1) := by decide +kernel
theorem dX3_takeFrom_28 : decode cX3_takeFrom 28 = .ok (.aload_n 0, 1) := by decide +kernel
theorem dX3_takeFrom_29 : decode cX3_takeFrom 29 = .ok (.getfield 15, 3) := by decide +kernel
theorem dX3_takeFrom_32 : decode cX3_takeFrom 32 = .ok (.arraylength, 1) := by decide +kernel
theorem dX3_takeFrom_33 : decode cX3_takeFrom 33 = .ok (.invokestatic 51, 3) := by decide +kernel
theorem dX3_takeFrom_36 : decode cX3_takeFrom 36 = .ok (.return_, 1) := by decide +kernel
theorem dX3_isRow_0 : decode cX3_isRow 0 = .ok (.iload_n 0, 1) := by decide +kernel
theorem dX3_isRow_1 : decode cX3_isRow 1 = .ok (.ifCond .lt 23, 3) := by decide +kernel
theorem dX3_isRow_4 : decode cX3_isRow 4 = .ok (.iload_n 0, 1) := by decide +kernel
theorem dX3_isRow_5 : decode cX3_isRow 5 = .ok (.bipush 10, 2) := by decide +kernel
theorem dX3_isRow_7 : decode cX3_isRow 7 = .ok (.if_icmp .ge 17, 3) := by decide +kernel
theorem dX3_isRow_10 : decode cX3_isRow 10 = .ok (.iload_n 1, 1) := by decide +kernel
theorem dX3_isRow_11 : decode cX3_isRow 11 = .ok (.ifCond .lt 13, 3) := by decide +kernel
theorem dX3_isRow_14 : decode cX3_isRow 14 = .ok (.iload_n 1, 1) := by decide +kernel
theorem dX3_isRow_15 : decode cX3_isRow 15 = .ok (.bipush 100, 2) := by decide +kernel
theorem dX3_isRow_17 : decode cX3_isRow 17 = .ok (.if_icmp .ge 7, 3) := by decide +kernel
theorem dX3_isRow_20 : decode cX3_isRow 20 = .ok (.iconst 1, 1) := by decide +kernel
theorem dX3_isRow_21 : decode cX3_isRow 21 = .ok (.goto 4, 3) := by decide +kernel
theorem dX3_isRow_24 : decode cX3_isRow 24 = .ok (.iconst 0, 1) := by decide +kernel
theorem dX3_isRow_25 : decode cX3_isRow 25 = .ok (.ireturn, 1) := by decide +kernel
theorem dX3_rowOf_0 : decode cX3_rowOf 0 = .ok (.iload_n 0, 1) := by decide +kernel
theorem dX3_rowOf_1 : decode cX3_rowOf 1 = .ok (.bipush 100, 2) := by decide +kernel
theorem dX3_rowOf_3 : decode cX3_rowOf 3 = .ok (.imul, 1) := by decide +kernel
theorem dX3_rowOf_4 : decode cX3_rowOf 4 = .ok (.iload_n 1, 1) := by decide +kernel
theorem dX3_rowOf_5 : decode cX3_rowOf 5 = .ok (.iadd, 1) := by decide +kernel
theorem dX3_rowOf_6 : decode cX3_rowOf 6 = .ok (.ireturn, 1) := by decide +kernel
theorem dX3_read_0 : decode cX3_read 0 = .ok (.aload_n 0, 1) := by decide +kernel
theorem dX3_read_1 : decode cX3_read 1 = .ok (.getfield 11, 3) := by decide +kernel
theorem dX3_read_4 : decode cX3_read 4 = .ok (.iload_n 1, 1) := by decide +kernel
theorem dX3_read_5 : decode cX3_read 5 = .ok (.iconst 2, 1) := by decide +kernel
theorem dX3_read_6 : decode cX3_read 6 = .ok (.imul, 1) := by decide +kernel
theorem dX3_read_7 : decode cX3_read 7 = .ok (.iload_n 2, 1) := by decide +kernel
theorem dX3_read_8 : decode cX3_read 8 = .ok (.bipush 6, 2) := by decide +kernel
theorem dX3_read_10 : decode cX3_read 10 = .ok (.idiv, 1) := by decide +kernel
theorem dX3_read_11 : decode cX3_read 11 = .ok (.iadd, 1) := by decide +kernel
theorem dX3_read_12 : decode cX3_read 12 = .ok (.laload, 1) := by decide +kernel
theorem dX3_read_13 : decode cX3_read 13 = .ok (.lstore_n 3, 1) := by decide +kernel
theorem dX3_read_14 : decode cX3_read 14 = .ok (.iload_n 2, 1) := by decide +kernel
theorem dX3_read_15 : decode cX3_read 15 = .ok (.bipush 6, 2) := by decide +kernel
theorem dX3_read_17 : decode cX3_read 17 = .ok (.irem, 1) := by decide +kernel
theorem dX3_read_18 : decode cX3_read 18 = .ok (.bipush 8, 2) := by decide +kernel
theorem dX3_read_20 : decode cX3_read 20 = .ok (.imul, 1) := by decide +kernel
theorem dX3_read_21 : decode cX3_read 21 = .ok (.istore 5, 2) := by decide +kernel
theorem dX3_read_23 : decode cX3_read 23 = .ok (.lload_n 3, 1) := by decide +kernel
theorem dX3_read_24 : decode cX3_read 24 = .ok (.iload 5, 2) := by decide +kernel
theorem dX3_read_26 : decode cX3_read 26 = .ok (.lushr, 1) := by decide +kernel
theorem dX3_read_27 : decode cX3_read 27 = .ok (.ldc2_w 57, 3) := by decide +kernel
theorem dX3_read_30 : decode cX3_read 30 = .ok (.land, 1) := by decide +kernel
theorem dX3_read_31 : decode cX3_read 31 = .ok (.l2i, 1) := by decide +kernel
theorem dX3_read_32 : decode cX3_read 32 = .ok (.ireturn, 1) := by decide +kernel
theorem dX3_write_0 : decode cX3_write 0 = .ok (.iload_n 1, 1) := by decide +kernel
theorem dX3_write_1 : decode cX3_write 1 = .ok (.iconst 2, 1) := by decide +kernel
theorem dX3_write_2 : decode cX3_write 2 = .ok (.imul, 1) := by decide +kernel
theorem dX3_write_3 : decode cX3_write 3 = .ok (.iload_n 2, 1) := by decide +kernel
theorem dX3_write_4 : decode cX3_write 4 = .ok (.bipush 6, 2) := by decide +kernel
theorem dX3_write_6 : decode cX3_write 6 = .ok (.idiv, 1) := by decide +kernel
theorem dX3_write_7 : decode cX3_write 7 = .ok (.iadd, 1) := by decide +kernel
theorem dX3_write_8 : decode cX3_write 8 = .ok (.istore 4, 2) := by decide +kernel
theorem dX3_write_10 : decode cX3_write 10 = .ok (.iload_n 2, 1) := by decide +kernel
theorem dX3_write_11 : decode cX3_write 11 = .ok (.bipush 6, 2) := by decide +kernel
theorem dX3_write_13 : decode cX3_write 13 = .ok (.irem, 1) := by decide +kernel
theorem dX3_write_14 : decode cX3_write 14 = .ok (.bipush 8, 2) := by decide +kernel
theorem dX3_write_16 : decode cX3_write 16 = .ok (.imul, 1) := by decide +kernel
theorem dX3_write_17 : decode cX3_write 17 = .ok (.istore 5, 2) := by decide +kernel
theorem dX3_write_19 : decode cX3_write 19 = .ok (.aload_n 0, 1) := by decide +kernel
theorem dX3_write_20 : decode cX3_write 20 = .ok (.getfield 11, 3) := by decide +kernel
theorem dX3_write_23 : decode cX3_write 23 = .ok (.iload 4, 2) := by decide +kernel
theorem dX3_write_25 : decode cX3_write 25 = .ok (.laload, 1) := by decide +kernel
theorem dX3_write_26 : decode cX3_write 26 = .ok (.ldc2_w 57, 3) := by decide +kernel
theorem dX3_write_29 : decode cX3_write 29 = .ok (.iload 5, 2) := by decide +kernel
theorem dX3_write_31 : decode cX3_write 31 = .ok (.lshl, 1) := by decide +kernel
theorem dX3_write_32 : decode cX3_write 32 = .ok (.ldc2_w 59, 3) := by decide +kernel
theorem dX3_write_35 : decode cX3_write 35 = .ok (.lxor, 1) := by decide +kernel
theorem dX3_write_36 : decode cX3_write 36 = .ok (.land, 1) := by decide +kernel
theorem dX3_write_37 : decode cX3_write 37 = .ok (.lstore 6, 2) := by decide +kernel
theorem dX3_write_39 : decode cX3_write 39 = .ok (.aload_n 0, 1) := by decide +kernel
theorem dX3_write_40 : decode cX3_write 40 = .ok (.getfield 11, 3) := by decide +kernel
theorem dX3_write_43 : decode cX3_write 43 = .ok (.iload 4, 2) := by decide +kernel
theorem dX3_write_45 : decode cX3_write 45 = .ok (.lload 6, 2) := by decide +kernel
theorem dX3_write_47 : decode cX3_write 47 = .ok (.iload_n 3, 1) := by decide +kernel
theorem dX3_write_48 : decode cX3_write 48 = .ok (.i2l, 1) := by decide +kernel
theorem dX3_write_49 : decode cX3_write 49 = .ok (.iload 5, 2) := by decide +kernel
theorem dX3_write_51 : decode cX3_write 51 = .ok (.lshl, 1) := by decide +kernel
theorem dX3_write_52 : decode cX3_write 52 = .ok (.lor, 1) := by decide +kernel
theorem dX3_write_53 : decode cX3_write 53 = .ok (.lastore, 1) := by decide +kernel
theorem dX3_write_54 : decode cX3_write 54 = .ok (.return_, 1) := by decide +kernel
theorem dX4_init_0 : decode cX4_init 0 = .ok (.aload_n 0, 1) := by decide +kernel
theorem dX4_init_1 : decode cX4_init 1 = .ok (.invokespecial 3, 3) := by decide +kernel
theorem dX4_init_4 : decode cX4_init 4 = .ok (.aload_n 0, 1) := by decide +kernel
theorem dX4_init_5 : decode cX4_init 5 = .ok (.bipush 100, 2) := by decide +kernel
theorem dX4_init_7 : decode cX4_init 7 = .ok (.newarray .boolean, 2) := by decide +kernel
theorem dX4_init_9 : decode cX4_init 9 = .ok (.putfield 9, 3) := by decide +kernel
theorem dX4_init_12 : decode cX4_init 12 = .ok (.aload_n 0, 1) := by decide +kernel
theorem dX4_init_13 : decode cX4_init 13 = .ok (.bipush 100, 2) := by decide +kernel
theorem dX4_init_15 : decode cX4_init 15 = .ok (.newarray .int, 2) := by decide +kernel
theorem dX4_init_17 : decode cX4_init 17 = .ok (.putfield 15, 3) := by decide +kernel
theorem dX4_init_20 : decode cX4_init 20 = .ok (.return_, 1) := by decide +kernel
theorem dX4_isSlot_0 : decode cX4_isSlot 0 = .ok (.iload_n 0, 1) := by decide +kernel
theorem dX4_isSlot_1 : decode cX4_isSlot 1 = .ok (.ifCond .lt 13, 3) := by decide +kernel
theorem dX4_isSlot_4 : decode cX4_isSlot 4 = .ok (.iload_n 0, 1) := by decide +kernel
theorem dX4_isSlot_5 : decode cX4_isSlot 5 = .ok (.bipush 100, 2) := by decide +kernel
theorem dX4_isSlot_7 : decode cX4_isSlot 7 = .ok (.if_icmp .ge 7, 3) := by decide +kernel
theorem dX4_isSlot_10 : decode cX4_isSlot 10 = .ok (.iconst 1, 1) := by decide +kernel
theorem dX4_isSlot_11 : decode cX4_isSlot 11 = .ok (.goto 4, 3) := by decide +kernel
theorem dX4_isSlot_14 : decode cX4_isSlot 14 = .ok (.iconst 0, 1) := by decide +kernel
theorem dX4_isSlot_15 : decode cX4_isSlot 15 = .ok (.ireturn, 1) := by decide +kernel
theorem dX4_length_0 : decode cX4_length 0 = .ok (.aload_n 0, 1) := by decide +kernel
theorem dX4_length_1 : decode cX4_length 1 = .ok (.getfield 19, 3) := by decide +kernel
theorem dX4_length_4 : decode cX4_length 4 = .ok (.ireturn, 1) := by decide +kernel
theorem dX4_get_0 : decode cX4_get 0 = .ok (.iload_n 1, 1) := by decide +kernel
theorem dX4_get_1 : decode cX4_get 1 = .ok (.ifCond .lt 20, 3) := by decide +kernel
theorem dX4_get_4 : decode cX4_get 4 = .ok (.iload_n 1, 1) := by decide +kernel
theorem dX4_get_5 : decode cX4_get 5 = .ok (.aload_n 0, 1) := by decide +kernel
theorem dX4_get_6 : decode cX4_get 6 = .ok (.getfield 19, 3) := by decide +kernel
theorem dX4_get_9 : decode cX4_get 9 = .ok (.if_icmp .ge 12, 3) := by decide +kernel
theorem dX4_get_12 : decode cX4_get 12 = .ok (.aload_n 0, 1) := by decide +kernel
theorem dX4_get_13 : decode cX4_get 13 = .ok (.getfield 15, 3) := by decide +kernel
theorem dX4_get_16 : decode cX4_get 16 = .ok (.iload_n 1, 1) := by decide +kernel
theorem dX4_get_17 : decode cX4_get 17 = .ok (.iaload, 1) := by decide +kernel
theorem dX4_get_18 : decode cX4_get 18 = .ok (.goto 4, 3) := by decide +kernel
theorem dX4_get_21 : decode cX4_get 21 = .ok (.iconst (-1), 1) := by decide +kernel
theorem dX4_get_22 : decode cX4_get 22 = .ok (.ireturn, 1) := by decide +kernel
theorem dX4_holds_0 : decode cX4_holds 0 = .ok (.iload_n 1, 1) := by decide +kernel
theorem dX4_holds_1 : decode cX4_holds 1 = .ok (.invokestatic 23, 3) := by decide +kernel
theorem dX4_holds_4 : decode cX4_holds 4 = .ok (.ifCond .eq 16, 3) := by decide +kernel
theorem dX4_holds_7 : decode cX4_holds 7 = .ok (.aload_n 0, 1) := by decide +kernel
theorem dX4_holds_8 : decode cX4_holds 8 = .ok (.getfield 9, 3) := by decide +kernel
theorem dX4_holds_11 : decode cX4_holds 11 = .ok (.iload_n 1, 1) := by decide +kernel
theorem dX4_holds_12 : decode cX4_holds 12 = .ok (.baload, 1) := by decide +kernel
theorem dX4_holds_13 : decode cX4_holds 13 = .ok (.ifCond .eq 7, 3) := by decide +kernel
theorem dX4_holds_16 : decode cX4_holds 16 = .ok (.iconst 1, 1) := by decide +kernel
theorem dX4_holds_17 : decode cX4_holds 17 = .ok (.goto 4, 3) := by decide +kernel
theorem dX4_holds_20 : decode cX4_holds 20 = .ok (.iconst 0, 1) := by decide +kernel
theorem dX4_holds_21 : decode cX4_holds 21 = .ok (.ireturn, 1) := by decide +kernel
theorem dX4_add_0 : decode cX4_add 0 = .ok (.iload_n 1, 1) := by decide +kernel
theorem dX4_add_1 : decode cX4_add 1 = .ok (.invokestatic 23, 3) := by decide +kernel
theorem dX4_add_4 : decode cX4_add 4 = .ok (.ifCond .eq 48, 3) := by decide +kernel
theorem dX4_add_7 : decode cX4_add 7 = .ok (.aload_n 0, 1) := by decide +kernel
theorem dX4_add_8 : decode cX4_add 8 = .ok (.getfield 9, 3) := by decide +kernel
theorem dX4_add_11 : decode cX4_add 11 = .ok (.iload_n 1, 1) := by decide +kernel
theorem dX4_add_12 : decode cX4_add 12 = .ok (.baload, 1) := by decide +kernel
theorem dX4_add_13 : decode cX4_add 13 = .ok (.ifCond .ne 39, 3) := by decide +kernel
theorem dX4_add_16 : decode cX4_add 16 = .ok (.aload_n 0, 1) := by decide +kernel
theorem dX4_add_17 : decode cX4_add 17 = .ok (.getfield 19, 3) := by decide +kernel
theorem dX4_add_20 : decode cX4_add 20 = .ok (.bipush 100, 2) := by decide +kernel
theorem dX4_add_22 : decode cX4_add 22 = .ok (.if_icmp .ge 30, 3) := by decide +kernel
theorem dX4_add_25 : decode cX4_add 25 = .ok (.aload_n 0, 1) := by decide +kernel
theorem dX4_add_26 : decode cX4_add 26 = .ok (.getfield 9, 3) := by decide +kernel
theorem dX4_add_29 : decode cX4_add 29 = .ok (.iload_n 1, 1) := by decide +kernel
theorem dX4_add_30 : decode cX4_add 30 = .ok (.iconst 1, 1) := by decide +kernel
theorem dX4_add_31 : decode cX4_add 31 = .ok (.bastore, 1) := by decide +kernel
theorem dX4_add_32 : decode cX4_add 32 = .ok (.aload_n 0, 1) := by decide +kernel
theorem dX4_add_33 : decode cX4_add 33 = .ok (.getfield 15, 3) := by decide +kernel
theorem dX4_add_36 : decode cX4_add 36 = .ok (.aload_n 0, 1) := by decide +kernel
theorem dX4_add_37 : decode cX4_add 37 = .ok (.getfield 19, 3) := by decide +kernel
theorem dX4_add_40 : decode cX4_add 40 = .ok (.iload_n 1, 1) := by decide +kernel
theorem dX4_add_41 : decode cX4_add 41 = .ok (.iastore, 1) := by decide +kernel
theorem dX4_add_42 : decode cX4_add 42 = .ok (.aload_n 0, 1) := by decide +kernel
theorem dX4_add_43 : decode cX4_add 43 = .ok (.dup, 1) := by decide +kernel
theorem dX4_add_44 : decode cX4_add 44 = .ok (.getfield 19, 3) := by decide +kernel
theorem dX4_add_47 : decode cX4_add 47 = .ok (.iconst 1, 1) := by decide +kernel
theorem dX4_add_48 : decode cX4_add 48 = .ok (.iadd, 1) := by decide +kernel
theorem dX4_add_49 : decode cX4_add 49 = .ok (.putfield 19, 3) := by decide +kernel
theorem dX4_add_52 : decode cX4_add 52 = .ok (.return_, 1) := by decide +kernel
theorem dX4_clear_0 : decode cX4_clear 0 = .ok (.iconst 0, 1) := by decide +kernel
theorem dX4_clear_1 : decode cX4_clear 1 = .ok (.istore_n 1, 1) := by decide +kernel
theorem dX4_clear_2 : decode cX4_clear 2 = .ok (.iload_n 1, 1) := by decide +kernel
theorem dX4_clear_3 : decode cX4_clear 3 = .ok (.aload_n 0, 1) := by decide +kernel
theorem dX4_clear_4 : decode cX4_clear 4 = .ok (.getfield 19, 3) := by decide +kernel
theorem dX4_clear_7 : decode cX4_clear 7 = .ok (.if_icmp .ge 21, 3) := by decide +kernel
theorem dX4_clear_10 : decode cX4_clear 10 = .ok (.aload_n 0, 1) := by decide +kernel
theorem dX4_clear_11 : decode cX4_clear 11 = .ok (.getfield 9, 3) := by decide +kernel
theorem dX4_clear_14 : decode cX4_clear 14 = .ok (.aload_n 0, 1) := by decide +kernel
theorem dX4_clear_15 : decode cX4_clear 15 = .ok (.getfield 15, 3) := by decide +kernel
theorem dX4_clear_18 : decode cX4_clear 18 = .ok (.iload_n 1, 1) := by decide +kernel
theorem dX4_clear_19 : decode cX4_clear 19 = .ok (.iaload, 1) := by decide +kernel
theorem dX4_clear_20 : decode cX4_clear 20 = .ok (.iconst 0, 1) := by decide +kernel
theorem dX4_clear_21 : decode cX4_clear 21 = .ok (.bastore, 1) := by decide +kernel
theorem dX4_clear_22 : decode cX4_clear 22 = .ok (.iinc 1 1, 3) := by decide +kernel
theorem dX4_clear_25 : decode cX4_clear 25 = .ok (.goto (-23), 3) := by decide +kernel
theorem dX4_clear_28 : decode cX4_clear 28 = .ok (.aload_n 0, 1) := by decide +kernel
theorem dX4_clear_29 : decode cX4_clear 29 = .ok (.iconst 0, 1) := by decide +kernel
theorem dX4_clear_30 : decode cX4_clear 30 = .ok (.putfield 19, 3) := by decide +kernel
theorem dX4_clear_33 : decode cX4_clear 33 = .ok (.return_, 1) := by decide +kernel
theorem dX5_init_0 : decode cX5_init 0 = .ok (.aload_n 0, 1) := by decide +kernel
theorem dX5_init_1 : decode cX5_init 1 = .ok (.invokespecial 3, 3) := by decide +kernel
theorem dX5_init_4 : decode cX5_init 4 = .ok (.aload_n 0, 1) := by decide +kernel
theorem dX5_init_5 : decode cX5_init 5 = .ok (.bipush 10, 2) := by decide +kernel
theorem dX5_init_7 : decode cX5_init 7 = .ok (.newarray .int, 2) := by decide +kernel
theorem dX5_init_9 : decode cX5_init 9 = .ok (.putfield 9, 3) := by decide +kernel
theorem dX5_init_12 : decode cX5_init 12 = .ok (.aload_n 0, 1) := by decide +kernel
theorem dX5_init_13 : decode cX5_init 13 = .ok (.bipush 10, 2) := by decide +kernel
theorem dX5_init_15 : decode cX5_init 15 = .ok (.newarray .int, 2) := by decide +kernel
theorem dX5_init_17 : decode cX5_init 17 = .ok (.putfield 15, 3) := by decide +kernel
theorem dX5_init_20 : decode cX5_init 20 = .ok (.aload_n 0, 1) := by decide +kernel
theorem dX5_init_21 : decode cX5_init 21 = .ok (.bipush 10, 2) := by decide +kernel
theorem dX5_init_23 : decode cX5_init 23 = .ok (.newarray .int, 2) := by decide +kernel
theorem dX5_init_25 : decode cX5_init 25 = .ok (.putfield 18, 3) := by decide +kernel
theorem dX5_init_28 : decode cX5_init 28 = .ok (.aload_n 0, 1) := by decide +kernel
theorem dX5_init_29 : decode cX5_init 29 = .ok (.bipush 10, 2) := by decide +kernel
theorem dX5_init_31 : decode cX5_init 31 = .ok (.newarray .int, 2) := by decide +kernel
theorem dX5_init_33 : decode cX5_init 33 = .ok (.putfield 21, 3) := by decide +kernel
theorem dX5_init_36 : decode cX5_init 36 = .ok (.return_, 1) := by decide +kernel
theorem dX5_howMany_0 : decode cX5_howMany 0 = .ok (.aload_n 0, 1) := by decide +kernel
theorem dX5_howMany_1 : decode cX5_howMany 1 = .ok (.getfield 24, 3) := by decide +kernel
theorem dX5_howMany_4 : decode cX5_howMany 4 = .ok (.ireturn, 1) := by decide +kernel
theorem dX5_knows_0 : decode cX5_knows 0 = .ok (.iload_n 1, 1) := by decide +kernel
theorem dX5_knows_1 : decode cX5_knows 1 = .ok (.ifCond .lt 15, 3) := by decide +kernel
theorem dX5_knows_4 : decode cX5_knows 4 = .ok (.iload_n 1, 1) := by decide +kernel
theorem dX5_knows_5 : decode cX5_knows 5 = .ok (.aload_n 0, 1) := by decide +kernel
theorem dX5_knows_6 : decode cX5_knows 6 = .ok (.getfield 24, 3) := by decide +kernel
theorem dX5_knows_9 : decode cX5_knows 9 = .ok (.if_icmp .ge 7, 3) := by decide +kernel
theorem dX5_knows_12 : decode cX5_knows 12 = .ok (.iconst 1, 1) := by decide +kernel
theorem dX5_knows_13 : decode cX5_knows 13 = .ok (.goto 4, 3) := by decide +kernel
theorem dX5_knows_16 : decode cX5_knows 16 = .ok (.iconst 0, 1) := by decide +kernel
theorem dX5_knows_17 : decode cX5_knows 17 = .ok (.ireturn, 1) := by decide +kernel
theorem dX5_tell_0 : decode cX5_tell 0 = .ok (.aload_n 0, 1) := by decide +kernel
theorem dX5_tell_1 : decode cX5_tell 1 = .ok (.getfield 24, 3) := by decide +kernel
theorem dX5_tell_4 : decode cX5_tell 4 = .ok (.bipush 10, 2) := by decide +kernel
theorem dX5_tell_6 : decode cX5_tell 6 = .ok (.if_icmp .lt 5, 3) := by decide +kernel
theorem dX5_tell_9 : decode cX5_tell 9 = .ok (.iconst (-1), 1) := by decide +kernel
theorem dX5_tell_10 : decode cX5_tell 10 = .ok (.ireturn, 1) := by decide +kernel
theorem dX5_tell_11 : decode cX5_tell 11 = .ok (.aload_n 0, 1) := by decide +kernel
theorem dX5_tell_12 : decode cX5_tell 12 = .ok (.getfield 9, 3) := by decide +kernel
theorem dX5_tell_15 : decode cX5_tell 15 = .ok (.aload_n 0, 1) := by decide +kernel
theorem dX5_tell_16 : decode cX5_tell 16 = .ok (.getfield 24, 3) := by decide +kernel
theorem dX5_tell_19 : decode cX5_tell 19 = .ok (.iload_n 1, 1) := by decide +kernel
theorem dX5_tell_20 : decode cX5_tell 20 = .ok (.iastore, 1) := by decide +kernel
theorem dX5_tell_21 : decode cX5_tell 21 = .ok (.aload_n 0, 1) := by decide +kernel
theorem dX5_tell_22 : decode cX5_tell 22 = .ok (.getfield 15, 3) := by decide +kernel
theorem dX5_tell_25 : decode cX5_tell 25 = .ok (.aload_n 0, 1) := by decide +kernel
theorem dX5_tell_26 : decode cX5_tell 26 = .ok (.getfield 24, 3) := by decide +kernel
theorem dX5_tell_29 : decode cX5_tell 29 = .ok (.iload_n 2, 1) := by decide +kernel
theorem dX5_tell_30 : decode cX5_tell 30 = .ok (.iastore, 1) := by decide +kernel
theorem dX5_tell_31 : decode cX5_tell 31 = .ok (.aload_n 0, 1) := by decide +kernel
theorem dX5_tell_32 : decode cX5_tell 32 = .ok (.getfield 18, 3) := by decide +kernel
theorem dX5_tell_35 : decode cX5_tell 35 = .ok (.aload_n 0, 1) := by decide +kernel
theorem dX5_tell_36 : decode cX5_tell 36 = .ok (.getfield 24, 3) := by decide +kernel
theorem dX5_tell_39 : decode cX5_tell 39 = .ok (.iload_n 3, 1) := by decide +kernel
theorem dX5_tell_40 : decode cX5_tell 40 = .ok (.iastore, 1) := by decide +kernel
theorem dX5_tell_41 : decode cX5_tell 41 = .ok (.aload_n 0, 1) := by decide +kernel
theorem dX5_tell_42 : decode cX5_tell 42 = .ok (.getfield 21, 3) := by decide +kernel
theorem dX5_tell_45 : decode cX5_tell 45 = .ok (.aload_n 0, 1) := by decide +kernel
theorem dX5_tell_46 : decode cX5_tell 46 = .ok (.getfield 24, 3) := by decide +kernel
theorem dX5_tell_49 : decode cX5_tell 49 = .ok (.iload 4, 2) := by decide +kernel
theorem dX5_tell_51 : decode cX5_tell 51 = .ok (.iastore, 1) := by decide +kernel
theorem dX5_tell_52 : decode cX5_tell 52 = .ok (.aload_n 0, 1) := by decide +kernel
theorem dX5_tell_53 : decode cX5_tell 53 = .ok (.dup, 1) := by decide +kernel
theorem dX5_tell_54 : decode cX5_tell 54 = .ok (.getfield 24, 3) := by decide +kernel
theorem dX5_tell_57 : decode cX5_tell 57 = .ok (.iconst 1, 1) := by decide +kernel
theorem dX5_tell_58 : decode cX5_tell 58 = .ok (.iadd, 1) := by decide +kernel
theorem dX5_tell_59 : decode cX5_tell 59 = .ok (.putfield 24, 3) := by decide +kernel
theorem dX5_tell_62 : decode cX5_tell 62 = .ok (.aload_n 0, 1) := by decide +kernel
theorem dX5_tell_63 : decode cX5_tell 63 = .ok (.getfield 24, 3) := by decide +kernel
theorem dX5_tell_66 : decode cX5_tell 66 = .ok (.iconst 1, 1) := by decide +kernel
theorem dX5_tell_67 : decode cX5_tell 67 = .ok (.isub, 1) := by decide +kernel
theorem dX5_tell_68 : decode cX5_tell 68 = .ok (.ireturn, 1) := by decide +kernel
theorem dX5_fromKind_0 : decode cX5_fromKind 0 = .ok (.aload_n 0, 1) := by decide +kernel
theorem dX5_fromKind_1 : decode cX5_fromKind 1 = .ok (.iload_n 1, 1) := by decide +kernel
theorem dX5_fromKind_2 : decode cX5_fromKind 2 = .ok (.invokevirtual 28, 3) := by decide +kernel
theorem dX5_fromKind_5 : decode cX5_fromKind 5 = .ok (.ifCond .eq 12, 3) := by decide +kernel
theorem dX5_fromKind_8 : decode cX5_fromKind 8 = .ok (.aload_n 0, 1) := by decide +kernel
theorem dX5_fromKind_9 : decode cX5_fromKind 9 = .ok (.getfield 9, 3) := by decide +kernel
theorem dX5_fromKind_12 : decode cX5_fromKind 12 = .ok (.iload_n 1, 1) := by decide +kernel
theorem dX5_fromKind_13 : decode cX5_fromKind 13 = .ok (.iaload, 1) := by decide +kernel
theorem dX5_fromKind_14 : decode cX5_fromKind 14 = .ok (.goto 4, 3) := by decide +kernel
theorem dX5_fromKind_17 : decode cX5_fromKind 17 = .ok (.iconst (-1), 1) := by decide +kernel
theorem dX5_fromKind_18 : decode cX5_fromKind 18 = .ok (.ireturn, 1) := by decide +kernel
theorem dX5_toKind_0 : decode cX5_toKind 0 = .ok (.aload_n 0, 1) := by decide +kernel
theorem dX5_toKind_1 : decode cX5_toKind 1 = .ok (.iload_n 1, 1) := by decide +kernel
theorem dX5_toKind_2 : decode cX5_toKind 2 = .ok (.invokevirtual 28, 3) := by decide +kernel
theorem dX5_toKind_5 : decode cX5_toKind 5 = .ok (.ifCond .eq 12, 3) := by decide +kernel
theorem dX5_toKind_8 : decode cX5_toKind 8 = .ok (.aload_n 0, 1) := by decide +kernel
theorem dX5_toKind_9 : decode cX5_toKind 9 = .ok (.getfield 15, 3) := by decide +kernel
theorem dX5_toKind_12 : decode cX5_toKind 12 = .ok (.iload_n 1, 1) := by decide +kernel
theorem dX5_toKind_13 : decode cX5_toKind 13 = .ok (.iaload, 1) := by decide +kernel
theorem dX5_toKind_14 : decode cX5_toKind 14 = .ok (.goto 4, 3) := by decide +kernel
theorem dX5_toKind_17 : decode cX5_toKind 17 = .ok (.iconst (-1), 1) := by decide +kernel
theorem dX5_toKind_18 : decode cX5_toKind 18 = .ok (.ireturn, 1) := by decide +kernel
theorem dX5_hasForm_0 : decode cX5_hasForm 0 = .ok (.aload_n 0, 1) := by decide +kernel
theorem dX5_hasForm_1 : decode cX5_hasForm 1 = .ok (.iload_n 1, 1) := by decide +kernel
theorem dX5_hasForm_2 : decode cX5_hasForm 2 = .ok (.invokevirtual 28, 3) := by decide +kernel
theorem dX5_hasForm_5 : decode cX5_hasForm 5 = .ok (.ifCond .eq 17, 3) := by decide +kernel
theorem dX5_hasForm_8 : decode cX5_hasForm 8 = .ok (.aload_n 0, 1) := by decide +kernel
theorem dX5_hasForm_9 : decode cX5_hasForm 9 = .ok (.getfield 18, 3) := by decide +kernel
theorem dX5_hasForm_12 : decode cX5_hasForm 12 = .ok (.iload_n 1, 1) := by decide +kernel
theorem dX5_hasForm_13 : decode cX5_hasForm 13 = .ok (.iaload, 1) := by decide +kernel
theorem dX5_hasForm_14 : decode cX5_hasForm 14 = .ok (.iload_n 2, 1) := by decide +kernel
theorem dX5_hasForm_15 : decode cX5_hasForm 15 = .ok (.if_icmp .ne 7, 3) := by decide +kernel
theorem dX5_hasForm_18 : decode cX5_hasForm 18 = .ok (.iconst 1, 1) := by decide +kernel
theorem dX5_hasForm_19 : decode cX5_hasForm 19 = .ok (.goto 4, 3) := by decide +kernel
theorem dX5_hasForm_22 : decode cX5_hasForm 22 = .ok (.iconst 0, 1) := by decide +kernel
theorem dX5_hasForm_23 : decode cX5_hasForm 23 = .ok (.ireturn, 1) := by decide +kernel
theorem dX5_hasRule_0 : decode cX5_hasRule 0 = .ok (.aload_n 0, 1) := by decide +kernel
theorem dX5_hasRule_1 : decode cX5_hasRule 1 = .ok (.iload_n 1, 1) := by decide +kernel
theorem dX5_hasRule_2 : decode cX5_hasRule 2 = .ok (.invokevirtual 28, 3) := by decide +kernel
theorem dX5_hasRule_5 : decode cX5_hasRule 5 = .ok (.ifCond .eq 17, 3) := by decide +kernel
theorem dX5_hasRule_8 : decode cX5_hasRule 8 = .ok (.aload_n 0, 1) := by decide +kernel
theorem dX5_hasRule_9 : decode cX5_hasRule 9 = .ok (.getfield 21, 3) := by decide +kernel
theorem dX5_hasRule_12 : decode cX5_hasRule 12 = .ok (.iload_n 1, 1) := by decide +kernel
theorem dX5_hasRule_13 : decode cX5_hasRule 13 = .ok (.iaload, 1) := by decide +kernel
theorem dX5_hasRule_14 : decode cX5_hasRule 14 = .ok (.iload_n 2, 1) := by decide +kernel
theorem dX5_hasRule_15 : decode cX5_hasRule 15 = .ok (.if_icmp .ne 7, 3) := by decide +kernel
theorem dX5_hasRule_18 : decode cX5_hasRule 18 = .ok (.iconst 1, 1) := by decide +kernel
theorem dX5_hasRule_19 : decode cX5_hasRule 19 = .ok (.goto 4, 3) := by decide +kernel
theorem dX5_hasRule_22 : decode cX5_hasRule 22 = .ok (.iconst 0, 1) := by decide +kernel
theorem dX5_hasRule_23 : decode cX5_hasRule 23 = .ok (.ireturn, 1) := by decide +kernel
theorem dX6_init_0 : decode cX6_init 0 = .ok (.aload_n 0, 1) := by decide +kernel
theorem dX6_init_1 : decode cX6_init 1 = .ok (.invokespecial 3, 3) := by decide +kernel
theorem dX6_init_4 : decode cX6_init 4 = .ok (.aload_n 0, 1) := by decide +kernel
theorem dX6_init_5 : decode cX6_init 5 = .ok (.bipush 100, 2) := by decide +kernel
theorem dX6_init_7 : decode cX6_init 7 = .ok (.newarray .int, 2) := by decide +kernel
theorem dX6_init_9 : decode cX6_init 9 = .ok (.putfield 9, 3) := by decide +kernel
theorem dX6_init_12 : decode cX6_init 12 = .ok (.return_, 1) := by decide +kernel
theorem dX6_length_0 : decode cX6_length 0 = .ok (.aload_n 0, 1) := by decide +kernel
theorem dX6_length_1 : decode cX6_length 1 = .ok (.getfield 15, 3) := by decide +kernel
theorem dX6_length_4 : decode cX6_length 4 = .ok (.ireturn, 1) := by decide +kernel
theorem dX6_get_0 : decode cX6_get 0 = .ok (.iload_n 1, 1) := by decide +kernel
theorem dX6_get_1 : decode cX6_get 1 = .ok (.ifCond .lt 20, 3) := by decide +kernel
theorem dX6_get_4 : decode cX6_get 4 = .ok (.iload_n 1, 1) := by decide +kernel
theorem dX6_get_5 : decode cX6_get 5 = .ok (.aload_n 0, 1) := by decide +kernel
theorem dX6_get_6 : decode cX6_get 6 = .ok (.getfield 15, 3) := by decide +kernel
theorem dX6_get_9 : decode cX6_get 9 = .ok (.if_icmp .ge 12, 3) := by decide +kernel
theorem dX6_get_12 : decode cX6_get 12 = .ok (.aload_n 0, 1) := by decide +kernel
theorem dX6_get_13 : decode cX6_get 13 = .ok (.getfield 9, 3) := by decide +kernel
theorem dX6_get_16 : decode cX6_get 16 = .ok (.iload_n 1, 1) := by decide +kernel
theorem dX6_get_17 : decode cX6_get 17 = .ok (.iaload, 1) := by decide +kernel
theorem dX6_get_18 : decode cX6_get 18 = .ok (.goto 4, 3) := by decide +kernel
theorem dX6_get_21 : decode cX6_get 21 = .ok (.iconst (-1), 1) := by decide +kernel
theorem dX6_get_22 : decode cX6_get 22 = .ok (.ireturn, 1) := by decide +kernel
theorem dX6_clear_0 : decode cX6_clear 0 = .ok (.aload_n 0, 1) := by decide +kernel
theorem dX6_clear_1 : decode cX6_clear 1 = .ok (.iconst 0, 1) := by decide +kernel
theorem dX6_clear_2 : decode cX6_clear 2 = .ok (.putfield 15, 3) := by decide +kernel
theorem dX6_clear_5 : decode cX6_clear 5 = .ok (.return_, 1) := by decide +kernel
theorem dX6_add_0 : decode cX6_add 0 = .ok (.aload_n 0, 1) := by decide +kernel
theorem dX6_add_1 : decode cX6_add 1 = .ok (.getfield 15, 3) := by decide +kernel
theorem dX6_add_4 : decode cX6_add 4 = .ok (.bipush 100, 2) := by decide +kernel
theorem dX6_add_6 : decode cX6_add 6 = .ok (.if_icmp .ge 23, 3) := by decide +kernel
theorem dX6_add_9 : decode cX6_add 9 = .ok (.aload_n 0, 1) := by decide +kernel
theorem dX6_add_10 : decode cX6_add 10 = .ok (.getfield 9, 3) := by decide +kernel
theorem dX6_add_13 : decode cX6_add 13 = .ok (.aload_n 0, 1) := by decide +kernel
theorem dX6_add_14 : decode cX6_add 14 = .ok (.getfield 15, 3) := by decide +kernel
theorem dX6_add_17 : decode cX6_add 17 = .ok (.iload_n 1, 1) := by decide +kernel
theorem dX6_add_18 : decode cX6_add 18 = .ok (.iastore, 1) := by decide +kernel
theorem dX6_add_19 : decode cX6_add 19 = .ok (.aload_n 0, 1) := by decide +kernel
theorem dX6_add_20 : decode cX6_add 20 = .ok (.dup, 1) := by decide +kernel
theorem dX6_add_21 : decode cX6_add 21 = .ok (.getfield 15, 3) := by decide +kernel
theorem dX6_add_24 : decode cX6_add 24 = .ok (.iconst 1, 1) := by decide +kernel
theorem dX6_add_25 : decode cX6_add 25 = .ok (.iadd, 1) := by decide +kernel
theorem dX6_add_26 : decode cX6_add 26 = .ok (.putfield 15, 3) := by decide +kernel
theorem dX6_add_29 : decode cX6_add 29 = .ok (.return_, 1) := by decide +kernel
theorem dX7_init_0 : decode cX7_init 0 = .ok (.aload_n 0, 1) := by decide +kernel
theorem dX7_init_1 : decode cX7_init 1 = .ok (.invokespecial 3, 3) := by decide +kernel
theorem dX7_init_4 : decode cX7_init 4 = .ok (.aload_n 0, 1) := by decide +kernel
theorem dX7_init_5 : decode cX7_init 5 = .ok (.aload_n 1, 1) := by decide +kernel
theorem dX7_init_6 : decode cX7_init 6 = .ok (.putfield 9, 3) := by decide +kernel
theorem dX7_init_9 : decode cX7_init 9 = .ok (.aload_n 0, 1) := by decide +kernel
theorem dX7_init_10 : decode cX7_init 10 = .ok (.aload_n 2, 1) := by decide +kernel
theorem dX7_init_11 : decode cX7_init 11 = .ok (.putfield 15, 3) := by decide +kernel
theorem dX7_init_14 : decode cX7_init 14 = .ok (.aload_n 0, 1) := by decide +kernel
theorem dX7_init_15 : decode cX7_init 15 = .ok (.new 19, 3) := by decide +kernel
theorem dX7_init_18 : decode cX7_init 18 = .ok (.dup, 1) := by decide +kernel
theorem dX7_init_19 : decode cX7_init 19 = .ok (.invokespecial 21, 3) := by decide +kernel
theorem dX7_init_22 : decode cX7_init 22 = .ok (.putfield 22, 3) := by decide +kernel
theorem dX7_init_25 : decode cX7_init 25 = .ok (.aload_n 0, 1) := by decide +kernel
theorem dX7_init_26 : decode cX7_init 26 = .ok (.bipush 100, 2) := by decide +kernel
theorem dX7_init_28 : decode cX7_init 28 = .ok (.newarray .int, 2) := by decide +kernel
theorem dX7_init_30 : decode cX7_init 30 = .ok (.putfield 26, 3) := by decide +kernel
theorem dX7_init_33 : decode cX7_init 33 = .ok (.return_, 1) := by decide +kernel
theorem dX7_gather_0 : decode cX7_gather 0 = .ok (.aload_n 0, 1) := by decide +kernel
theorem dX7_gather_1 : decode cX7_gather 1 = .ok (.getfield 15, 3) := by decide +kernel
theorem dX7_gather_4 : decode cX7_gather 4 = .ok (.aload_n 1, 1) := by decide +kernel
theorem dX7_gather_5 : decode cX7_gather 5 = .ok (.invokevirtual 30, 3) := by decide +kernel
theorem dX7_gather_8 : decode cX7_gather 8 = .ok (.iload_n 2, 1) := by decide +kernel
theorem dX7_gather_9 : decode cX7_gather 9 = .ok (.invokevirtual 36, 3) := by decide +kernel
theorem dX7_gather_12 : decode cX7_gather 12 = .ok (.astore_n 3, 1) := by decide +kernel
theorem dX7_gather_13 : decode cX7_gather 13 = .ok (.aload_n 0, 1) := by decide +kernel
theorem dX7_gather_14 : decode cX7_gather 14 = .ok (.getfield 22, 3) := by decide +kernel
theorem dX7_gather_17 : decode cX7_gather 17 = .ok (.invokevirtual 42, 3) := by decide +kernel
theorem dX7_gather_20 : decode cX7_gather 20 = .ok (.iconst 0, 1) := by decide +kernel
theorem dX7_gather_21 : decode cX7_gather 21 = .ok (.istore 4, 2) := by decide +kernel
theorem dX7_gather_23 : decode cX7_gather 23 = .ok (.iload 4, 2) := by decide +kernel
theorem dX7_gather_25 : decode cX7_gather 25 = .ok (.aload_n 3, 1) := by decide +kernel
theorem dX7_gather_26 : decode cX7_gather 26 = .ok (.invokevirtual 45, 3) := by decide +kernel
theorem dX7_gather_29 : decode cX7_gather 29 = .ok (.if_icmp .ge 22, 3) := by decide +kernel
theorem dX7_gather_32 : decode cX7_gather 32 = .ok (.aload_n 0, 1) := by decide +kernel
theorem dX7_gather_33 : decode cX7_gather 33 = .ok (.getfield 22, 3) := by decide +kernel
theorem dX7_gather_36 : decode cX7_gather 36 = .ok (.aload_n 0, 1) := by decide +kernel
theorem dX7_gather_37 : decode cX7_gather 37 = .ok (.aload_n 1, 1) := by decide +kernel
theorem dX7_gather_38 : decode cX7_gather 38 = .ok (.aload_n 3, 1) := by decide +kernel
theorem dX7_gather_39 : decode cX7_gather 39 = .ok (.invokevirtual 49, 3) := by decide +kernel
theorem dX7_gather_42 : decode cX7_gather 42 = .ok (.invokevirtual 53, 3) := by decide +kernel
theorem dX7_gather_45 : decode cX7_gather 45 = .ok (.iinc 4 1, 3) := by decide +kernel
theorem dX7_gather_48 : decode cX7_gather 48 = .ok (.goto (-25), 3) := by decide +kernel
theorem dX7_gather_51 : decode cX7_gather 51 = .ok (.return_, 1) := by decide +kernel
theorem dX7_fit_0 : decode cX7_fit 0 = .ok (.aload_n 1, 1) := by decide +kernel
theorem dX7_fit_1 : decode cX7_fit 1 = .ok (.invokevirtual 57, 3) := by decide +kernel
theorem dX7_fit_4 : decode cX7_fit 4 = .ok (.aload_n 0, 1) := by decide +kernel
theorem dX7_fit_5 : decode cX7_fit 5 = .ok (.getfield 22, 3) := by decide +kernel
theorem dX7_fit_8 : decode cX7_fit 8 = .ok (.invokevirtual 45, 3) := by decide +kernel
theorem dX7_fit_11 : decode cX7_fit 11 = .ok (.iadd, 1) := by decide +kernel
theorem dX7_fit_12 : decode cX7_fit 12 = .ok (.bipush 100, 2) := by decide +kernel
theorem dX7_fit_14 : decode cX7_fit 14 = .ok (.if_icmp .le 5, 3) := by decide +kernel
theorem dX7_fit_17 : decode cX7_fit 17 = .ok (.iconst 0, 1) := by decide +kernel
theorem dX7_fit_18 : decode cX7_fit 18 = .ok (.ireturn, 1) := by decide +kernel
theorem dX7_fit_19 : decode cX7_fit 19 = .ok (.iconst 0, 1) := by decide +kernel
theorem dX7_fit_20 : decode cX7_fit 20 = .ok (.istore_n 2, 1) := by decide +kernel
theorem dX7_fit_21 : decode cX7_fit 21 = .ok (.iload_n 2, 1) := by decide +kernel
theorem dX7_fit_22 : decode cX7_fit 22 = .ok (.aload_n 0, 1) := by decide +kernel
theorem dX7_fit_23 : decode cX7_fit 23 = .ok (.getfield 9, 3) := by decide +kernel
theorem dX7_fit_26 : decode cX7_fit 26 = .ok (.invokevirtual 60, 3) := by decide +kernel
theorem dX7_fit_29 : decode cX7_fit 29 = .ok (.if_icmp .ge 74, 3) := by decide +kernel
theorem dX7_fit_32 : decode cX7_fit 32 = .ok (.iconst 0, 1) := by decide +kernel
theorem dX7_fit_33 : decode cX7_fit 33 = .ok (.istore_n 3, 1) := by decide +kernel
theorem dX7_fit_34 : decode cX7_fit 34 = .ok (.iload_n 3, 1) := by decide +kernel
theorem dX7_fit_35 : decode cX7_fit 35 = .ok (.bipush 100, 2) := by decide +kernel
theorem dX7_fit_37 : decode cX7_fit 37 = .ok (.if_icmp .ge 60, 3) := by decide +kernel
theorem dX7_fit_40 : decode cX7_fit 40 = .ok (.aload_n 0, 1) := by decide +kernel
theorem dX7_fit_41 : decode cX7_fit 41 = .ok (.iload_n 2, 1) := by decide +kernel
theorem dX7_fit_42 : decode cX7_fit 42 = .ok (.invokevirtual 65, 3) := by decide +kernel
theorem dX7_fit_45 : decode cX7_fit 45 = .ok (.ifCond .eq 24, 3) := by decide +kernel
theorem dX7_fit_48 : decode cX7_fit 48 = .ok (.aload_n 0, 1) := by decide +kernel
theorem dX7_fit_49 : decode cX7_fit 49 = .ok (.getfield 22, 3) := by decide +kernel
theorem dX7_fit_52 : decode cX7_fit 52 = .ok (.iload_n 3, 1) := by decide +kernel
theorem dX7_fit_53 : decode cX7_fit 53 = .ok (.invokevirtual 69, 3) := by decide +kernel
theorem dX7_fit_56 : decode cX7_fit 56 = .ok (.ifCond .ne 13, 3) := by decide +kernel
theorem dX7_fit_59 : decode cX7_fit 59 = .ok (.aload_n 0, 1) := by decide +kernel
theorem dX7_fit_60 : decode cX7_fit 60 = .ok (.aload_n 1, 1) := by decide +kernel
theorem dX7_fit_61 : decode cX7_fit 61 = .ok (.iload_n 2, 1) := by decide +kernel
theorem dX7_fit_62 : decode cX7_fit 62 = .ok (.iload_n 3, 1) := by decide +kernel
theorem dX7_fit_63 : decode cX7_fit 63 = .ok (.invokevirtual 72, 3) := by decide +kernel
theorem dX7_fit_66 : decode cX7_fit 66 = .ok (.goto 4, 3) := by decide +kernel
theorem dX7_fit_69 : decode cX7_fit 69 = .ok (.iconst 0, 1) := by decide +kernel
theorem dX7_fit_70 : decode cX7_fit 70 = .ok (.istore 4, 2) := by decide +kernel
theorem dX7_fit_72 : decode cX7_fit 72 = .ok (.aload_n 1, 1) := by decide +kernel
theorem dX7_fit_73 : decode cX7_fit 73 = .ok (.invokevirtual 76, 3) := by decide +kernel
theorem dX7_fit_76 : decode cX7_fit 76 = .ok (.iload_n 2, 1) := by decide +kernel
theorem dX7_fit_77 : decode cX7_fit 77 = .ok (.iload_n 3, 1) := by decide +kernel
theorem dX7_fit_78 : decode cX7_fit 78 = .ok (.invokevirtual 79, 3) := by decide +kernel
theorem dX7_fit_81 : decode cX7_fit 81 = .ok (.iload 4, 2) := by decide +kernel
theorem dX7_fit_83 : decode cX7_fit 83 = .ok (.iadd, 1) := by decide +kernel
theorem dX7_fit_84 : decode cX7_fit 84 = .ok (.bipush 12, 2) := by decide +kernel
theorem dX7_fit_86 : decode cX7_fit 86 = .ok (.if_icmp .le 5, 3) := by decide +kernel
theorem dX7_fit_89 : decode cX7_fit 89 = .ok (.iconst 0, 1) := by decide +kernel
theorem dX7_fit_90 : decode cX7_fit 90 = .ok (.ireturn, 1) := by decide +kernel
theorem dX7_fit_91 : decode cX7_fit 91 = .ok (.iinc 3 1, 3) := by decide +kernel
theorem dX7_fit_94 : decode cX7_fit 94 = .ok (.goto (-60), 3) := by decide +kernel
theorem dX7_fit_97 : decode cX7_fit 97 = .ok (.iinc 2 1, 3) := by decide +kernel
theorem dX7_fit_100 : decode cX7_fit 100 = .ok (.goto (-79), 3) := by decide +kernel
theorem dX7_fit_103 : decode cX7_fit 103 = .ok (.iconst 1, 1) := by decide +kernel
theorem dX7_fit_104 : decode cX7_fit 104 = .ok (.ireturn, 1) := by decide +kernel
theorem dX7_build_0 : decode cX7_build 0 = .ok (.iconst 0, 1) := by decide +kernel
theorem dX7_build_1 : decode cX7_build 1 = .ok (.istore_n 3, 1) := by decide +kernel
theorem dX7_build_2 : decode cX7_build 2 = .ok (.iload_n 3, 1) := by decide +kernel
theorem dX7_build_3 : decode cX7_build 3 = .ok (.aload_n 0, 1) := by decide +kernel
theorem dX7_build_4 : decode cX7_build 4 = .ok (.getfield 22, 3) := by decide +kernel
theorem dX7_build_7 : decode cX7_build 7 = .ok (.invokevirtual 45, 3) := by decide +kernel
theorem dX7_build_10 : decode cX7_build 10 = .ok (.if_icmp .ge 47, 3) := by decide +kernel
theorem dX7_build_13 : decode cX7_build 13 = .ok (.aload_n 0, 1) := by decide +kernel
theorem dX7_build_14 : decode cX7_build 14 = .ok (.getfield 22, 3) := by decide +kernel
theorem dX7_build_17 : decode cX7_build 17 = .ok (.iload_n 3, 1) := by decide +kernel
theorem dX7_build_18 : decode cX7_build 18 = .ok (.invokevirtual 85, 3) := by decide +kernel
theorem dX7_build_21 : decode cX7_build 21 = .ok (.istore 4, 2) := by decide +kernel
theorem dX7_build_23 : decode cX7_build 23 = .ok (.iload 4, 2) := by decide +kernel
theorem dX7_build_25 : decode cX7_build 25 = .ok (.invokestatic 89, 3) := by decide +kernel
theorem dX7_build_28 : decode cX7_build 28 = .ok (.ifCond .eq 23, 3) := by decide +kernel
theorem dX7_build_31 : decode cX7_build 31 = .ok (.aload_n 0, 1) := by decide +kernel
theorem dX7_build_32 : decode cX7_build 32 = .ok (.getfield 26, 3) := by decide +kernel
theorem dX7_build_35 : decode cX7_build 35 = .ok (.iload 4, 2) := by decide +kernel
theorem dX7_build_37 : decode cX7_build 37 = .ok (.aload_n 1, 1) := by decide +kernel
theorem dX7_build_38 : decode cX7_build 38 = .ok (.iload_n 2, 1) := by decide +kernel
theorem dX7_build_39 : decode cX7_build 39 = .ok (.iload_n 3, 1) := by decide +kernel
theorem dX7_build_40 : decode cX7_build 40 = .ok (.iadd, 1) := by decide +kernel
theorem dX7_build_41 : decode cX7_build 41 = .ok (.aload_n 1, 1) := by decide +kernel
theorem dX7_build_42 : decode cX7_build 42 = .ok (.iload 4, 2) := by decide +kernel
theorem dX7_build_44 : decode cX7_build 44 = .ok (.invokevirtual 92, 3) := by decide +kernel
theorem dX7_build_47 : decode cX7_build 47 = .ok (.invokevirtual 95, 3) := by decide +kernel
theorem dX7_build_50 : decode cX7_build 50 = .ok (.iastore, 1) := by decide +kernel
theorem dX7_build_51 : decode cX7_build 51 = .ok (.iinc 3 1, 3) := by decide +kernel
theorem dX7_build_54 : decode cX7_build 54 = .ok (.goto (-52), 3) := by decide +kernel
theorem dX7_build_57 : decode cX7_build 57 = .ok (.iconst 0, 1) := by decide +kernel
theorem dX7_build_58 : decode cX7_build 58 = .ok (.istore_n 3, 1) := by decide +kernel
theorem dX7_build_59 : decode cX7_build 59 = .ok (.iload_n 3, 1) := by decide +kernel
theorem dX7_build_60 : decode cX7_build 60 = .ok (.aload_n 0, 1) := by decide +kernel
theorem dX7_build_61 : decode cX7_build 61 = .ok (.getfield 9, 3) := by decide +kernel
theorem dX7_build_64 : decode cX7_build 64 = .ok (.invokevirtual 60, 3) := by decide +kernel
theorem dX7_build_67 : decode cX7_build 67 = .ok (.if_icmp .ge 69, 3) := by decide +kernel
theorem dX7_build_70 : decode cX7_build 70 = .ok (.iconst 0, 1) := by decide +kernel
theorem dX7_build_71 : decode cX7_build 71 = .ok (.istore 4, 2) := by decide +kernel
theorem dX7_build_73 : decode cX7_build 73 = .ok (.iload 4, 2) := by decide +kernel
theorem dX7_build_75 : decode cX7_build 75 = .ok (.aload_n 0, 1) := by decide +kernel
theorem dX7_build_76 : decode cX7_build 76 = .ok (.getfield 22, 3) := by decide +kernel
theorem dX7_build_79 : decode cX7_build 79 = .ok (.invokevirtual 45, 3) := by decide +kernel
theorem dX7_build_82 : decode cX7_build 82 = .ok (.if_icmp .ge 24, 3) := by decide +kernel
theorem dX7_build_85 : decode cX7_build 85 = .ok (.aload_n 0, 1) := by decide +kernel
theorem dX7_build_86 : decode cX7_build 86 = .ok (.aload_n 1, 1) := by decide +kernel
theorem dX7_build_87 : decode cX7_build 87 = .ok (.iload_n 3, 1) := by decide +kernel
theorem dX7_build_88 : decode cX7_build 88 = .ok (.aload_n 0, 1) := by decide +kernel
theorem dX7_build_89 : decode cX7_build 89 = .ok (.getfield 22, 3) := by decide +kernel
theorem dX7_build_92 : decode cX7_build 92 = .ok (.iload 4, 2) := by decide +kernel
theorem dX7_build_94 : decode cX7_build 94 = .ok (.invokevirtual 85, 3) := by decide +kernel
theorem dX7_build_97 : decode cX7_build 97 = .ok (.invokevirtual 98, 3) := by decide +kernel
theorem dX7_build_100 : decode cX7_build 100 = .ok (.iinc 4 1, 3) := by decide +kernel
theorem dX7_build_103 : decode cX7_build 103 = .ok (.goto (-30), 3) := by decide +kernel
theorem dX7_build_106 : decode cX7_build 106 = .ok (.iconst 0, 1) := by decide +kernel
theorem dX7_build_107 : decode cX7_build 107 = .ok (.istore 4, 2) := by decide +kernel
theorem dX7_build_109 : decode cX7_build 109 = .ok (.iload 4, 2) := by decide +kernel
theorem dX7_build_111 : decode cX7_build 111 = .ok (.bipush 100, 2) := by decide +kernel
theorem dX7_build_113 : decode cX7_build 113 = .ok (.if_icmp .ge 17, 3) := by decide +kernel
theorem dX7_build_116 : decode cX7_build 116 = .ok (.aload_n 0, 1) := by decide +kernel
theorem dX7_build_117 : decode cX7_build 117 = .ok (.aload_n 1, 1) := by decide +kernel
theorem dX7_build_118 : decode cX7_build 118 = .ok (.iload_n 3, 1) := by decide +kernel
theorem dX7_build_119 : decode cX7_build 119 = .ok (.iload 4, 2) := by decide +kernel
theorem dX7_build_121 : decode cX7_build 121 = .ok (.invokevirtual 102, 3) := by decide +kernel
theorem dX7_build_124 : decode cX7_build 124 = .ok (.iinc 4 1, 3) := by decide +kernel
theorem dX7_build_127 : decode cX7_build 127 = .ok (.goto (-18), 3) := by decide +kernel
theorem dX7_build_130 : decode cX7_build 130 = .ok (.iinc 3 1, 3) := by decide +kernel
theorem dX7_build_133 : decode cX7_build 133 = .ok (.goto (-74), 3) := by decide +kernel
theorem dX7_build_136 : decode cX7_build 136 = .ok (.iload_n 2, 1) := by decide +kernel
theorem dX7_build_137 : decode cX7_build 137 = .ok (.aload_n 0, 1) := by decide +kernel
theorem dX7_build_138 : decode cX7_build 138 = .ok (.getfield 22, 3) := by decide +kernel
theorem dX7_build_141 : decode cX7_build 141 = .ok (.invokevirtual 45, 3) := by decide +kernel
theorem dX7_build_144 : decode cX7_build 144 = .ok (.iadd, 1) := by decide +kernel
theorem dX7_build_145 : decode cX7_build 145 = .ok (.ireturn, 1) := by decide +kernel
theorem dX7_twinOf_0 : decode cX7_twinOf 0 = .ok (.aload_n 0, 1) := by decide +kernel
theorem dX7_twinOf_1 : decode cX7_twinOf 1 = .ok (.getfield 22, 3) := by decide +kernel
theorem dX7_twinOf_4 : decode cX7_twinOf 4 = .ok (.iload_n 1, 1) := by decide +kernel
theorem dX7_twinOf_5 : decode cX7_twinOf 5 = .ok (.invokevirtual 69, 3) := by decide +kernel
theorem dX7_twinOf_8 : decode cX7_twinOf 8 = .ok (.ifCond .eq 12, 3) := by decide +kernel
theorem dX7_twinOf_11 : decode cX7_twinOf 11 = .ok (.aload_n 0, 1) := by decide +kernel
theorem dX7_twinOf_12 : decode cX7_twinOf 12 = .ok (.getfield 26, 3) := by decide +kernel
theorem dX7_twinOf_15 : decode cX7_twinOf 15 = .ok (.iload_n 1, 1) := by decide +kernel
theorem dX7_twinOf_16 : decode cX7_twinOf 16 = .ok (.iaload, 1) := by decide +kernel
theorem dX7_twinOf_17 : decode cX7_twinOf 17 = .ok (.goto 4, 3) := by decide +kernel
theorem dX7_twinOf_20 : decode cX7_twinOf 20 = .ok (.iconst (-1), 1) := by decide +kernel
theorem dX7_twinOf_21 : decode cX7_twinOf 21 = .ok (.ireturn, 1) := by decide +kernel
theorem dX7_leastMissing_0 : decode cX7_leastMissing 0 = .ok (.iconst (-1), 1) := by decide +kernel
theorem dX7_leastMissing_1 : decode cX7_leastMissing 1 = .ok (.istore_n 3, 1) := by decide +kernel
theorem dX7_leastMissing_2 : decode cX7_leastMissing 2 = .ok (.iconst 0, 1) := by decide +kernel
theorem dX7_leastMissing_3 : decode cX7_leastMissing 3 = .ok (.istore 4, 2) := by decide +kernel
theorem dX7_leastMissing_5 : decode cX7_leastMissing 5 = .ok (.iload 4, 2) := by decide +kernel
theorem dX7_leastMissing_7 : decode cX7_leastMissing 7 = .ok (.aload_n 2, 1) := by decide +kernel
theorem dX7_leastMissing_8 : decode cX7_leastMissing 8 = .ok (.invokevirtual 45, 3) := by decide +kernel
theorem dX7_leastMissing_11 : decode cX7_leastMissing 11 = .ok (.if_icmp .ge 63, 3) := by decide +kernel
theorem dX7_leastMissing_14 : decode cX7_leastMissing 14 = .ok (.aload_n 2, 1) := by decide +kernel
theorem dX7_leastMissing_15 : decode cX7_leastMissing 15 = .ok (.iload 4, 2) := by decide +kernel
theorem dX7_leastMissing_17 : decode cX7_leastMissing 17 = .ok (.invokevirtual 85, 3) := by decide +kernel
theorem dX7_leastMissing_20 : decode cX7_leastMissing 20 = .ok (.istore 5, 2) := by decide +kernel
theorem dX7_leastMissing_22 : decode cX7_leastMissing 22 = .ok (.aload_n 0, 1) := by decide +kernel
theorem dX7_leastMissing_23 : decode cX7_leastMissing 23 = .ok (.getfield 22, 3) := by decide +kernel
theorem dX7_leastMissing_26 : decode cX7_leastMissing 26 = .ok (.iload 5, 2) := by decide +kernel
theorem dX7_leastMissing_28 : decode cX7_leastMissing 28 = .ok (.invokevirtual 69, 3) := by decide +kernel
theorem dX7_leastMissing_31 : decode cX7_leastMissing 31 = .ok (.ifCond .ne 7, 3) := by decide +kernel
theorem dX7_leastMissing_34 : decode cX7_leastMissing 34 = .ok (.iconst 1, 1) := by decide +kernel
theorem dX7_leastMissing_35 : decode cX7_leastMissing 35 = .ok (.goto 4, 3) := by decide +kernel
theorem dX7_leastMissing_38 : decode cX7_leastMissing 38 = .ok (.iconst 0, 1) := by decide +kernel
theorem dX7_leastMissing_39 : decode cX7_leastMissing 39 = .ok (.istore 6, 2) := by decide +kernel
theorem dX7_leastMissing_41 : decode cX7_leastMissing 41 = .ok (.iload 6, 2) := by decide +kernel
theorem dX7_leastMissing_43 : decode cX7_leastMissing 43 = .ok (.ifCond .eq 25, 3) := by decide +kernel
theorem dX7_leastMissing_46 : decode cX7_leastMissing 46 = .ok (.iload_n 3, 1) := by decide +kernel
theorem dX7_leastMissing_47 : decode cX7_leastMissing 47 = .ok (.iconst (-1), 1) := by decide +kernel
theorem dX7_leastMissing_48 : decode cX7_leastMissing 48 = .ok (.if_icmp .eq 17, 3) := by decide +kernel
theorem dX7_leastMissing_51 : decode cX7_leastMissing 51 = .ok (.aload_n 1, 1) := by decide +kernel
theorem dX7_leastMissing_52 : decode cX7_leastMissing 52 = .ok (.iload 5, 2) := by decide +kernel
theorem dX7_leastMissing_54 : decode cX7_leastMissing 54 = .ok (.invokevirtual 105, 3) := by decide +kernel
theorem dX7_leastMissing_57 : decode cX7_leastMissing 57 = .ok (.aload_n 1, 1) := by decide +kernel
theorem dX7_leastMissing_58 : decode cX7_leastMissing 58 = .ok (.iload_n 3, 1) := by decide +kernel
theorem dX7_leastMissing_59 : decode cX7_leastMissing 59 = .ok (.invokevirtual 105, 3) := by decide +kernel
theorem dX7_leastMissing_62 : decode cX7_leastMissing 62 = .ok (.if_icmp .ge 6, 3) := by decide +kernel
theorem dX7_leastMissing_65 : decode cX7_leastMissing 65 = .ok (.iload 5, 2) := by decide +kernel
theorem dX7_leastMissing_67 : decode cX7_leastMissing 67 = .ok (.istore_n 3, 1) := by decide +kernel
theorem dX7_leastMissing_68 : decode cX7_leastMissing 68 = .ok (.iinc 4 1, 3) := by decide +kernel
theorem dX7_leastMissing_71 : decode cX7_leastMissing 71 = .ok (.goto (-66), 3) := by decide +kernel
theorem dX7_leastMissing_74 : decode cX7_leastMissing 74 = .ok (.iload_n 3, 1) := by decide +kernel
theorem dX7_leastMissing_75 : decode cX7_leastMissing 75 = .ok (.ireturn, 1) := by decide +kernel
theorem dX7_keepsOutsiders_0 : decode cX7_keepsOutsiders 0 = .ok (.aload_n 0, 1) := by decide +kernel
theorem dX7_keepsOutsiders_1 : decode cX7_keepsOutsiders 1 = .ok (.getfield 9, 3) := by decide +kernel
theorem dX7_keepsOutsiders_4 : decode cX7_keepsOutsiders 4 = .ok (.iload_n 1, 1) := by decide +kernel
theorem dX7_keepsOutsiders_5 : decode cX7_keepsOutsiders 5 = .ok (.iconst 2, 1) := by decide +kernel
theorem dX7_keepsOutsiders_6 : decode cX7_keepsOutsiders 6 = .ok (.invokevirtual 108, 3) := by decide +kernel
theorem dX7_keepsOutsiders_9 : decode cX7_keepsOutsiders 9 = .ok (.ifCond .eq 19, 3) := by decide +kernel
theorem dX7_keepsOutsiders_12 : decode cX7_keepsOutsiders 12 = .ok (.aload_n 0, 1) := by decide +kernel
theorem dX7_keepsOutsiders_13 : decode cX7_keepsOutsiders 13 = .ok (.getfield 9, 3) := by decide +kernel
theorem dX7_keepsOutsiders_16 : decode cX7_keepsOutsiders 16 = .ok (.iload_n 1, 1) := by decide +kernel
theorem dX7_keepsOutsiders_17 : decode cX7_keepsOutsiders 17 = .ok (.iconst 1, 1) := by decide +kernel
theorem dX7_keepsOutsiders_18 : decode cX7_keepsOutsiders 18 = .ok (.invokevirtual 112, 3) := by decide +kernel
theorem dX7_keepsOutsiders_21 : decode cX7_keepsOutsiders 21 = .ok (.ifCond .ne 7, 3) := by decide +kernel
theorem dX7_keepsOutsiders_24 : decode cX7_keepsOutsiders 24 = .ok (.iconst 1, 1) := by decide +kernel
theorem dX7_keepsOutsiders_25 : decode cX7_keepsOutsiders 25 = .ok (.goto 4, 3) := by decide +kernel
theorem dX7_keepsOutsiders_28 : decode cX7_keepsOutsiders 28 = .ok (.iconst 0, 1) := by decide +kernel
theorem dX7_keepsOutsiders_29 : decode cX7_keepsOutsiders 29 = .ok (.ireturn, 1) := by decide +kernel
theorem dX7_howManyOldHave_0 : decode cX7_howManyOldHave 0 = .ok (.iconst 0, 1) := by decide +kernel
theorem dX7_howManyOldHave_1 : decode cX7_howManyOldHave 1 = .ok (.istore 4, 2) := by decide +kernel
theorem dX7_howManyOldHave_3 : decode cX7_howManyOldHave 3 = .ok (.iconst 0, 1) := by decide +kernel
theorem dX7_howManyOldHave_4 : decode cX7_howManyOldHave 4 = .ok (.istore 5, 2) := by decide +kernel
theorem dX7_howManyOldHave_6 : decode cX7_howManyOldHave 6 = .ok (.iload 5, 2) := by decide +kernel
theorem dX7_howManyOldHave_8 : decode cX7_howManyOldHave 8 = .ok (.aload_n 1, 1) := by decide +kernel
theorem dX7_howManyOldHave_9 : decode cX7_howManyOldHave 9 = .ok (.invokevirtual 76, 3) := by decide +kernel
theorem dX7_howManyOldHave_12 : decode cX7_howManyOldHave 12 = .ok (.iload_n 2, 1) := by decide +kernel
theorem dX7_howManyOldHave_13 : decode cX7_howManyOldHave 13 = .ok (.iload_n 3, 1) := by decide +kernel
theorem dX7_howManyOldHave_14 : decode cX7_howManyOldHave 14 = .ok (.invokevirtual 79, 3) := by decide +kernel
theorem dX7_howManyOldHave_17 : decode cX7_howManyOldHave 17 = .ok (.if_icmp .ge 33, 3) := by decide +kernel
theorem dX7_howManyOldHave_20 : decode cX7_howManyOldHave 20 = .ok (.aload_n 0, 1) := by decide +kernel
theorem dX7_howManyOldHave_21 : decode cX7_howManyOldHave 21 = .ok (.getfield 22, 3) := by decide +kernel
theorem dX7_howManyOldHave_24 : decode cX7_howManyOldHave 24 = .ok (.aload_n 1, 1) := by decide +kernel
theorem dX7_howManyOldHave_25 : decode cX7_howManyOldHave 25 = .ok (.invokevirtual 76, 3) := by decide +kernel
theorem dX7_howManyOldHave_28 : decode cX7_howManyOldHave 28 = .ok (.iload_n 2, 1) := by decide +kernel
theorem dX7_howManyOldHave_29 : decode cX7_howManyOldHave 29 = .ok (.iload_n 3, 1) := by decide +kernel
theorem dX7_howManyOldHave_30 : decode cX7_howManyOldHave 30 = .ok (.iload 5, 2) := by decide +kernel
theorem dX7_howManyOldHave_32 : decode cX7_howManyOldHave 32 = .ok (.invokevirtual 115, 3) := by decide +kernel
theorem dX7_howManyOldHave_35 : decode cX7_howManyOldHave 35 = .ok (.invokevirtual 69, 3) := by decide +kernel
theorem dX7_howManyOldHave_38 : decode cX7_howManyOldHave 38 = .ok (.ifCond .eq 6, 3) := by decide +kernel
theorem dX7_howManyOldHave_41 : decode cX7_howManyOldHave 41 = .ok (.iinc 4 1, 3) := by decide +kernel
theorem dX7_howManyOldHave_44 : decode cX7_howManyOldHave 44 = .ok (.iinc 5 1, 3) := by decide +kernel
theorem dX7_howManyOldHave_47 : decode cX7_howManyOldHave 47 = .ok (.goto (-41), 3) := by decide +kernel
theorem dX7_howManyOldHave_50 : decode cX7_howManyOldHave 50 = .ok (.iload 4, 2) := by decide +kernel
theorem dX7_howManyOldHave_52 : decode cX7_howManyOldHave 52 = .ok (.ireturn, 1) := by decide +kernel
theorem dX7_standIn_0 : decode cX7_standIn 0 = .ok (.aload_n 0, 1) := by decide +kernel
theorem dX7_standIn_1 : decode cX7_standIn 1 = .ok (.getfield 22, 3) := by decide +kernel
theorem dX7_standIn_4 : decode cX7_standIn 4 = .ok (.iload_n 2, 1) := by decide +kernel
theorem dX7_standIn_5 : decode cX7_standIn 5 = .ok (.invokevirtual 69, 3) := by decide +kernel
theorem dX7_standIn_8 : decode cX7_standIn 8 = .ok (.ifCond .eq 9, 3) := by decide +kernel
theorem dX7_standIn_11 : decode cX7_standIn 11 = .ok (.aload_n 0, 1) := by decide +kernel
theorem dX7_standIn_12 : decode cX7_standIn 12 = .ok (.iload_n 2, 1) := by decide +kernel
theorem dX7_standIn_13 : decode cX7_standIn 13 = .ok (.invokevirtual 118, 3) := by decide +kernel
theorem dX7_standIn_16 : decode cX7_standIn 16 = .ok (.ireturn, 1) := by decide +kernel
theorem dX7_standIn_17 : decode cX7_standIn 17 = .ok (.aload_n 0, 1) := by decide +kernel
theorem dX7_standIn_18 : decode cX7_standIn 18 = .ok (.iload_n 1, 1) := by decide +kernel
theorem dX7_standIn_19 : decode cX7_standIn 19 = .ok (.invokevirtual 65, 3) := by decide +kernel
theorem dX7_standIn_22 : decode cX7_standIn 22 = .ok (.ifCond .eq 7, 3) := by decide +kernel
theorem dX7_standIn_25 : decode cX7_standIn 25 = .ok (.iload_n 2, 1) := by decide +kernel
theorem dX7_standIn_26 : decode cX7_standIn 26 = .ok (.goto 4, 3) := by decide +kernel
theorem dX7_standIn_29 : decode cX7_standIn 29 = .ok (.iconst (-1), 1) := by decide +kernel
theorem dX7_standIn_30 : decode cX7_standIn 30 = .ok (.ireturn, 1) := by decide +kernel
theorem dX7_copyHas_0 : decode cX7_copyHas 0 = .ok (.aload_n 1, 1) := by decide +kernel
theorem dX7_copyHas_1 : decode cX7_copyHas 1 = .ok (.invokevirtual 30, 3) := by decide +kernel
theorem dX7_copyHas_4 : decode cX7_copyHas 4 = .ok (.iload_n 2, 1) := by decide +kernel
theorem dX7_copyHas_5 : decode cX7_copyHas 5 = .ok (.iload_n 3, 1) := by decide +kernel
theorem dX7_copyHas_6 : decode cX7_copyHas 6 = .ok (.invokevirtual 79, 3) := by decide +kernel
theorem dX7_copyHas_9 : decode cX7_copyHas 9 = .ok (.istore 4, 2) := by decide +kernel
theorem dX7_copyHas_11 : decode cX7_copyHas 11 = .ok (.iconst 0, 1) := by decide +kernel
theorem dX7_copyHas_12 : decode cX7_copyHas 12 = .ok (.istore 5, 2) := by decide +kernel
theorem dX7_copyHas_14 : decode cX7_copyHas 14 = .ok (.iload 5, 2) := by decide +kernel
theorem dX7_copyHas_16 : decode cX7_copyHas 16 = .ok (.iload 4, 2) := by decide +kernel
theorem dX7_copyHas_18 : decode cX7_copyHas 18 = .ok (.if_icmp .ge 45, 3) := by decide +kernel
theorem dX7_copyHas_21 : decode cX7_copyHas 21 = .ok (.aload_n 0, 1) := by decide +kernel
theorem dX7_copyHas_22 : decode cX7_copyHas 22 = .ok (.iload_n 2, 1) := by decide +kernel
theorem dX7_copyHas_23 : decode cX7_copyHas 23 = .ok (.aload_n 1, 1) := by decide +kernel
theorem dX7_copyHas_24 : decode cX7_copyHas 24 = .ok (.invokevirtual 30, 3) := by decide +kernel
theorem dX7_copyHas_27 : decode cX7_copyHas 27 = .ok (.iload_n 2, 1) := by decide +kernel
theorem dX7_copyHas_28 : decode cX7_copyHas 28 = .ok (.iload_n 3, 1) := by decide +kernel
theorem dX7_copyHas_29 : decode cX7_copyHas 29 = .ok (.iload 5, 2) := by decide +kernel
theorem dX7_copyHas_31 : decode cX7_copyHas 31 = .ok (.invokevirtual 115, 3) := by decide +kernel
theorem dX7_copyHas_34 : decode cX7_copyHas 34 = .ok (.invokevirtual 121, 3) := by decide +kernel
theorem dX7_copyHas_37 : decode cX7_copyHas 37 = .ok (.istore 6, 2) := by decide +kernel
theorem dX7_copyHas_39 : decode cX7_copyHas 39 = .ok (.iload 6, 2) := by decide +kernel
theorem dX7_copyHas_41 : decode cX7_copyHas 41 = .ok (.iconst (-1), 1) := by decide +kernel
theorem dX7_copyHas_42 : decode cX7_copyHas 42 = .ok (.if_icmp .eq 15, 3) := by decide +kernel
theorem dX7_copyHas_45 : decode cX7_copyHas 45 = .ok (.aload_n 1, 1) := by decide +kernel
theorem dX7_copyHas_46 : decode cX7_copyHas 46 = .ok (.iload_n 2, 1) := by decide +kernel
theorem dX7_copyHas_47 : decode cX7_copyHas 47 = .ok (.aload_n 0, 1) := by decide +kernel
theorem dX7_copyHas_48 : decode cX7_copyHas 48 = .ok (.iload_n 3, 1) := by decide +kernel
theorem dX7_copyHas_49 : decode cX7_copyHas 49 = .ok (.invokevirtual 118, 3) := by decide +kernel
theorem dX7_copyHas_52 : decode cX7_copyHas 52 = .ok (.iload 6, 2) := by decide +kernel
theorem dX7_copyHas_54 : decode cX7_copyHas 54 = .ok (.invokevirtual 124, 3) := by decide +kernel
theorem dX7_copyHas_57 : decode cX7_copyHas 57 = .ok (.iinc 5 1, 3) := by decide +kernel
theorem dX7_copyHas_60 : decode cX7_copyHas 60 = .ok (.goto (-46), 3) := by decide +kernel
theorem dX7_copyHas_63 : decode cX7_copyHas 63 = .ok (.return_, 1) := by decide +kernel
theorem dX7_copyHad_0 : decode cX7_copyHad 0 = .ok (.aload_n 0, 1) := by decide +kernel
theorem dX7_copyHad_1 : decode cX7_copyHad 1 = .ok (.iload_n 2, 1) := by decide +kernel
theorem dX7_copyHad_2 : decode cX7_copyHad 2 = .ok (.iload_n 3, 1) := by decide +kernel
theorem dX7_copyHad_3 : decode cX7_copyHad 3 = .ok (.invokevirtual 121, 3) := by decide +kernel
theorem dX7_copyHad_6 : decode cX7_copyHad 6 = .ok (.istore 4, 2) := by decide +kernel
theorem dX7_copyHad_8 : decode cX7_copyHad 8 = .ok (.iload 4, 2) := by decide +kernel
theorem dX7_copyHad_10 : decode cX7_copyHad 10 = .ok (.iconst (-1), 1) := by decide +kernel
theorem dX7_copyHad_11 : decode cX7_copyHad 11 = .ok (.if_icmp .ne 7, 3) := by decide +kernel
theorem dX7_copyHad_14 : decode cX7_copyHad 14 = .ok (.iconst 0, 1) := by decide +kernel
theorem dX7_copyHad_15 : decode cX7_copyHad 15 = .ok (.goto 12, 3) := by decide +kernel
theorem dX7_copyHad_18 : decode cX7_copyHad 18 = .ok (.aload_n 1, 1) := by decide +kernel
theorem dX7_copyHad_19 : decode cX7_copyHad 19 = .ok (.invokevirtual 76, 3) := by decide +kernel
theorem dX7_copyHad_22 : decode cX7_copyHad 22 = .ok (.iload_n 2, 1) := by decide +kernel
theorem dX7_copyHad_23 : decode cX7_copyHad 23 = .ok (.iload_n 3, 1) := by decide +kernel
theorem dX7_copyHad_24 : decode cX7_copyHad 24 = .ok (.invokevirtual 79, 3) := by decide +kernel
theorem dX7_copyHad_27 : decode cX7_copyHad 27 = .ok (.istore 5, 2) := by decide +kernel
theorem dX7_copyHad_29 : decode cX7_copyHad 29 = .ok (.iconst 0, 1) := by decide +kernel
theorem dX7_copyHad_30 : decode cX7_copyHad 30 = .ok (.istore 6, 2) := by decide +kernel
theorem dX7_copyHad_32 : decode cX7_copyHad 32 = .ok (.iload 6, 2) := by decide +kernel
theorem dX7_copyHad_34 : decode cX7_copyHad 34 = .ok (.iload 5, 2) := by decide +kernel
theorem dX7_copyHad_36 : decode cX7_copyHad 36 = .ok (.if_icmp .ge 47, 3) := by decide +kernel
theorem dX7_copyHad_39 : decode cX7_copyHad 39 = .ok (.aload_n 1, 1) := by decide +kernel
theorem dX7_copyHad_40 : decode cX7_copyHad 40 = .ok (.invokevirtual 76, 3) := by decide +kernel
theorem dX7_copyHad_43 : decode cX7_copyHad 43 = .ok (.iload_n 2, 1) := by decide +kernel
theorem dX7_copyHad_44 : decode cX7_copyHad 44 = .ok (.iload_n 3, 1) := by decide +kernel
theorem dX7_copyHad_45 : decode cX7_copyHad 45 = .ok (.iload 6, 2) := by decide +kernel
theorem dX7_copyHad_47 : decode cX7_copyHad 47 = .ok (.invokevirtual 115, 3) := by decide +kernel
theorem dX7_copyHad_50 : decode cX7_copyHad 50 = .ok (.istore 7, 2) := by decide +kernel
theorem dX7_copyHad_52 : decode cX7_copyHad 52 = .ok (.aload_n 0, 1) := by decide +kernel
theorem dX7_copyHad_53 : decode cX7_copyHad 53 = .ok (.getfield 22, 3) := by decide +kernel
theorem dX7_copyHad_56 : decode cX7_copyHad 56 = .ok (.iload 7, 2) := by decide +kernel
theorem dX7_copyHad_58 : decode cX7_copyHad 58 = .ok (.invokevirtual 69, 3) := by decide +kernel
theorem dX7_copyHad_61 : decode cX7_copyHad 61 = .ok (.ifCond .eq 16, 3) := by decide +kernel
theorem dX7_copyHad_64 : decode cX7_copyHad 64 = .ok (.aload_n 1, 1) := by decide +kernel
theorem dX7_copyHad_65 : decode cX7_copyHad 65 = .ok (.iload_n 2, 1) := by decide +kernel
theorem dX7_copyHad_66 : decode cX7_copyHad 66 = .ok (.aload_n 0, 1) := by decide +kernel
theorem dX7_copyHad_67 : decode cX7_copyHad 67 = .ok (.iload 7, 2) := by decide +kernel
theorem dX7_copyHad_69 : decode cX7_copyHad 69 = .ok (.invokevirtual 118, 3) := by decide +kernel
theorem dX7_copyHad_72 : decode cX7_copyHad 72 = .ok (.iload 4, 2) := by decide +kernel
theorem dX7_copyHad_74 : decode cX7_copyHad 74 = .ok (.invokevirtual 128, 3) := by decide +kernel
theorem dX7_copyHad_77 : decode cX7_copyHad 77 = .ok (.iinc 6 1, 3) := by decide +kernel
theorem dX7_copyHad_80 : decode cX7_copyHad 80 = .ok (.goto (-48), 3) := by decide +kernel
theorem dX7_copyHad_83 : decode cX7_copyHad 83 = .ok (.return_, 1) := by decide +kernel
theorem dX8_init_0 : decode cX8_init 0 = .ok (.aload_n 0, 1) := by decide +kernel
theorem dX8_init_1 : decode cX8_init 1 = .ok (.invokespecial 3, 3) := by decide +kernel
theorem dX8_init_4 : decode cX8_init 4 = .ok (.aload_n 0, 1) := by decide +kernel
theorem dX8_init_5 : decode cX8_init 5 = .ok (.aload_n 1, 1) := by decide +kernel
theorem dX8_init_6 : decode cX8_init 6 = .ok (.putfield 9, 3) := by decide +kernel
theorem dX8_init_9 : decode cX8_init 9 = .ok (.aload_n 0, 1) := by decide +kernel
theorem dX8_init_10 : decode cX8_init 10 = .ok (.bipush 100, 2) := by decide +kernel
theorem dX8_init_12 : decode cX8_init 12 = .ok (.newarray .int, 2) := by decide +kernel
theorem dX8_init_14 : decode cX8_init 14 = .ok (.putfield 15, 3) := by decide +kernel
theorem dX8_init_17 : decode cX8_init 17 = .ok (.aload_n 0, 1) := by decide +kernel
theorem dX8_init_18 : decode cX8_init 18 = .ok (.new 19, 3) := by decide +kernel
theorem dX8_init_21 : decode cX8_init 21 = .ok (.dup, 1) := by decide +kernel
theorem dX8_init_22 : decode cX8_init 22 = .ok (.invokespecial 21, 3) := by decide +kernel
theorem dX8_init_25 : decode cX8_init 25 = .ok (.putfield 22, 3) := by decide +kernel
theorem dX8_init_28 : decode cX8_init 28 = .ok (.aload_n 0, 1) := by decide +kernel
theorem dX8_init_29 : decode cX8_init 29 = .ok (.new 19, 3) := by decide +kernel
theorem dX8_init_32 : decode cX8_init 32 = .ok (.dup, 1) := by decide +kernel
theorem dX8_init_33 : decode cX8_init 33 = .ok (.invokespecial 21, 3) := by decide +kernel
theorem dX8_init_36 : decode cX8_init 36 = .ok (.putfield 26, 3) := by decide +kernel
theorem dX8_init_39 : decode cX8_init 39 = .ok (.return_, 1) := by decide +kernel
theorem dX8_addOwning_0 : decode cX8_addOwning 0 = .ok (.iconst 0, 1) := by decide +kernel
theorem dX8_addOwning_1 : decode cX8_addOwning 1 = .ok (.istore 4, 2) := by decide +kernel
theorem dX8_addOwning_3 : decode cX8_addOwning 3 = .ok (.iload 4, 2) := by decide +kernel
theorem dX8_addOwning_5 : decode cX8_addOwning 5 = .ok (.aload_n 0, 1) := by decide +kernel
theorem dX8_addOwning_6 : decode cX8_addOwning 6 = .ok (.getfield 9, 3) := by decide +kernel
theorem dX8_addOwning_9 : decode cX8_addOwning 9 = .ok (.invokevirtual 29, 3) := by decide +kernel
theorem dX8_addOwning_12 : decode cX8_addOwning 12 = .ok (.if_icmp .ge 30, 3) := by decide +kernel
theorem dX8_addOwning_15 : decode cX8_addOwning 15 = .ok (.aload_n 0, 1) := by decide +kernel
theorem dX8_addOwning_16 : decode cX8_addOwning 16 = .ok (.getfield 9, 3) := by decide +kernel
theorem dX8_addOwning_19 : decode cX8_addOwning 19 = .ok (.iload 4, 2) := by decide +kernel
theorem dX8_addOwning_21 : decode cX8_addOwning 21 = .ok (.iconst 1, 1) := by decide +kernel
theorem dX8_addOwning_22 : decode cX8_addOwning 22 = .ok (.invokevirtual 35, 3) := by decide +kernel
theorem dX8_addOwning_25 : decode cX8_addOwning 25 = .ok (.ifCond .eq 11, 3) := by decide +kernel
theorem dX8_addOwning_28 : decode cX8_addOwning 28 = .ok (.aload_n 1, 1) := by decide +kernel
theorem dX8_addOwning_29 : decode cX8_addOwning 29 = .ok (.aload_n 3, 1) := by decide +kernel
theorem dX8_addOwning_30 : decode cX8_addOwning 30 = .ok (.iload 4, 2) := by decide +kernel
theorem dX8_addOwning_32 : decode cX8_addOwning 32 = .ok (.iload_n 2, 1) := by decide +kernel
theorem dX8_addOwning_33 : decode cX8_addOwning 33 = .ok (.invokevirtual 39, 3) := by decide +kernel
theorem dX8_addOwning_36 : decode cX8_addOwning 36 = .ok (.iinc 4 1, 3) := by decide +kernel
theorem dX8_addOwning_39 : decode cX8_addOwning 39 = .ok (.goto (-36), 3) := by decide +kernel
theorem dX8_addOwning_42 : decode cX8_addOwning 42 = .ok (.return_, 1) := by decide +kernel
theorem dX8_howManyOwning_0 : decode cX8_howManyOwning 0 = .ok (.aload_n 0, 1) := by decide +kernel
theorem dX8_howManyOwning_1 : decode cX8_howManyOwning 1 = .ok (.getfield 22, 3) := by decide +kernel
theorem dX8_howManyOwning_4 : decode cX8_howManyOwning 4 = .ok (.invokevirtual 45, 3) := by decide +kernel
theorem dX8_howManyOwning_7 : decode cX8_howManyOwning 7 = .ok (.aload_n 0, 1) := by decide +kernel
theorem dX8_howManyOwning_8 : decode cX8_howManyOwning 8 = .ok (.aload_n 1, 1) := by decide +kernel
theorem dX8_howManyOwning_9 : decode cX8_howManyOwning 9 = .ok (.iload_n 2, 1) := by decide +kernel
theorem dX8_howManyOwning_10 : decode cX8_howManyOwning 10 = .ok (.aload_n 0, 1) := by decide +kernel
theorem dX8_howManyOwning_11 : decode cX8_howManyOwning 11 = .ok (.getfield 22, 3) := by decide +kernel
theorem dX8_howManyOwning_14 : decode cX8_howManyOwning 14 = .ok (.invokevirtual 48, 3) := by decide +kernel
theorem dX8_howManyOwning_17 : decode cX8_howManyOwning 17 = .ok (.aload_n 0, 1) := by decide +kernel
theorem dX8_howManyOwning_18 : decode cX8_howManyOwning 18 = .ok (.getfield 22, 3) := by decide +kernel
theorem dX8_howManyOwning_21 : decode cX8_howManyOwning 21 = .ok (.invokevirtual 52, 3) := by decide +kernel
theorem dX8_howManyOwning_24 : decode cX8_howManyOwning 24 = .ok (.ireturn, 1) := by decide +kernel
theorem dX8_howManyNear_0 : decode cX8_howManyNear 0 = .ok (.aload_n 0, 1) := by decide +kernel
theorem dX8_howManyNear_1 : decode cX8_howManyNear 1 = .ok (.getfield 22, 3) := by decide +kernel
theorem dX8_howManyNear_4 : decode cX8_howManyNear 4 = .ok (.invokevirtual 45, 3) := by decide +kernel
theorem dX8_howManyNear_7 : decode cX8_howManyNear 7 = .ok (.iconst 0, 1) := by decide +kernel
theorem dX8_howManyNear_8 : decode cX8_howManyNear 8 = .ok (.istore_n 3, 1) := by decide +kernel
theorem dX8_howManyNear_9 : decode cX8_howManyNear 9 = .ok (.iload_n 3, 1) := by decide +kernel
theorem dX8_howManyNear_10 : decode cX8_howManyNear 10 = .ok (.aload_n 0, 1) := by decide +kernel
theorem dX8_howManyNear_11 : decode cX8_howManyNear 11 = .ok (.getfield 9, 3) := by decide +kernel
theorem dX8_howManyNear_14 : decode cX8_howManyNear 14 = .ok (.invokevirtual 29, 3) := by decide +kernel
theorem dX8_howManyNear_17 : decode cX8_howManyNear 17 = .ok (.if_icmp .ge 35, 3) := by decide +kernel
theorem dX8_howManyNear_20 : decode cX8_howManyNear 20 = .ok (.aload_n 1, 1) := by decide +kernel
theorem dX8_howManyNear_21 : decode cX8_howManyNear 21 = .ok (.invokevirtual 55, 3) := by decide +kernel
theorem dX8_howManyNear_24 : decode cX8_howManyNear 24 = .ok (.aload_n 0, 1) := by decide +kernel
theorem dX8_howManyNear_25 : decode cX8_howManyNear 25 = .ok (.getfield 22, 3) := by decide +kernel
theorem dX8_howManyNear_28 : decode cX8_howManyNear 28 = .ok (.iload_n 3, 1) := by decide +kernel
theorem dX8_howManyNear_29 : decode cX8_howManyNear 29 = .ok (.iload_n 2, 1) := by decide +kernel
theorem dX8_howManyNear_30 : decode cX8_howManyNear 30 = .ok (.invokevirtual 39, 3) := by decide +kernel
theorem dX8_howManyNear_33 : decode cX8_howManyNear 33 = .ok (.aload_n 1, 1) := by decide +kernel
theorem dX8_howManyNear_34 : decode cX8_howManyNear 34 = .ok (.invokevirtual 61, 3) := by decide +kernel
theorem dX8_howManyNear_37 : decode cX8_howManyNear 37 = .ok (.aload_n 0, 1) := by decide +kernel
theorem dX8_howManyNear_38 : decode cX8_howManyNear 38 = .ok (.getfield 22, 3) := by decide +kernel
theorem dX8_howManyNear_41 : decode cX8_howManyNear 41 = .ok (.iload_n 3, 1) := by decide +kernel
theorem dX8_howManyNear_42 : decode cX8_howManyNear 42 = .ok (.iload_n 2, 1) := by decide +kernel
theorem dX8_howManyNear_43 : decode cX8_howManyNear 43 = .ok (.invokevirtual 39, 3) := by decide +kernel
theorem dX8_howManyNear_46 : decode cX8_howManyNear 46 = .ok (.iinc 3 1, 3) := by decide +kernel
theorem dX8_howManyNear_49 : decode cX8_howManyNear 49 = .ok (.goto (-40), 3) := by decide +kernel
theorem dX8_howManyNear_52 : decode cX8_howManyNear 52 = .ok (.aload_n 0, 1) := by decide +kernel
theorem dX8_howManyNear_53 : decode cX8_howManyNear 53 = .ok (.getfield 22, 3) := by decide +kernel
theorem dX8_howManyNear_56 : decode cX8_howManyNear 56 = .ok (.invokevirtual 52, 3) := by decide +kernel
theorem dX8_howManyNear_59 : decode cX8_howManyNear 59 = .ok (.ireturn, 1) := by decide +kernel
theorem dX8_howManyUnder_0 : decode cX8_howManyUnder 0 = .ok (.aload_n 0, 1) := by decide +kernel
theorem dX8_howManyUnder_1 : decode cX8_howManyUnder 1 = .ok (.aload_n 1, 1) := by decide +kernel
theorem dX8_howManyUnder_2 : decode cX8_howManyUnder 2 = .ok (.invokevirtual 55, 3) := by decide +kernel
theorem dX8_howManyUnder_5 : decode cX8_howManyUnder 5 = .ok (.iload_n 2, 1) := by decide +kernel
theorem dX8_howManyUnder_6 : decode cX8_howManyUnder 6 = .ok (.invokevirtual 64, 3) := by decide +kernel
theorem dX8_howManyUnder_9 : decode cX8_howManyUnder 9 = .ok (.invokevirtual 52, 3) := by decide +kernel
theorem dX8_howManyUnder_12 : decode cX8_howManyUnder 12 = .ok (.iconst 1, 1) := by decide +kernel
theorem dX8_howManyUnder_13 : decode cX8_howManyUnder 13 = .ok (.isub, 1) := by decide +kernel
theorem dX8_howManyUnder_14 : decode cX8_howManyUnder 14 = .ok (.ireturn, 1) := by decide +kernel
theorem dX8_howDeep_0 : decode cX8_howDeep 0 = .ok (.aload_n 0, 1) := by decide +kernel
theorem dX8_howDeep_1 : decode cX8_howDeep 1 = .ok (.getfield 22, 3) := by decide +kernel
theorem dX8_howDeep_4 : decode cX8_howDeep 4 = .ok (.invokevirtual 45, 3) := by decide +kernel
theorem dX8_howDeep_7 : decode cX8_howDeep 7 = .ok (.aload_n 0, 1) := by decide +kernel
theorem dX8_howDeep_8 : decode cX8_howDeep 8 = .ok (.getfield 22, 3) := by decide +kernel
theorem dX8_howDeep_11 : decode cX8_howDeep 11 = .ok (.iload_n 2, 1) := by decide +kernel
theorem dX8_howDeep_12 : decode cX8_howDeep 12 = .ok (.invokevirtual 68, 3) := by decide +kernel
theorem dX8_howDeep_15 : decode cX8_howDeep 15 = .ok (.iconst 0, 1) := by decide +kernel
theorem dX8_howDeep_16 : decode cX8_howDeep 16 = .ok (.istore_n 3, 1) := by decide +kernel
theorem dX8_howDeep_17 : decode cX8_howDeep 17 = .ok (.iload_n 3, 1) := by decide +kernel
theorem dX8_howDeep_18 : decode cX8_howDeep 18 = .ok (.bipush 100, 2) := by decide +kernel
theorem dX8_howDeep_20 : decode cX8_howDeep 20 = .ok (.if_icmp .ge 90, 3) := by decide +kernel
theorem dX8_howDeep_23 : decode cX8_howDeep 23 = .ok (.aload_n 0, 1) := by decide +kernel
theorem dX8_howDeep_24 : decode cX8_howDeep 24 = .ok (.getfield 26, 3) := by decide +kernel
theorem dX8_howDeep_27 : decode cX8_howDeep 27 = .ok (.invokevirtual 45, 3) := by decide +kernel
theorem dX8_howDeep_30 : decode cX8_howDeep 30 = .ok (.iconst 0, 1) := by decide +kernel
theorem dX8_howDeep_31 : decode cX8_howDeep 31 = .ok (.istore 4, 2) := by decide +kernel
theorem dX8_howDeep_33 : decode cX8_howDeep 33 = .ok (.iload 4, 2) := by decide +kernel
theorem dX8_howDeep_35 : decode cX8_howDeep 35 = .ok (.aload_n 0, 1) := by decide +kernel
theorem dX8_howDeep_36 : decode cX8_howDeep 36 = .ok (.getfield 22, 3) := by decide +kernel
theorem dX8_howDeep_39 : decode cX8_howDeep 39 = .ok (.invokevirtual 52, 3) := by decide +kernel
theorem dX8_howDeep_42 : decode cX8_howDeep 42 = .ok (.if_icmp .ge 30, 3) := by decide +kernel
theorem dX8_howDeep_45 : decode cX8_howDeep 45 = .ok (.aload_n 0, 1) := by decide +kernel
theorem dX8_howDeep_46 : decode cX8_howDeep 46 = .ok (.aload_n 1, 1) := by decide +kernel
theorem dX8_howDeep_47 : decode cX8_howDeep 47 = .ok (.invokevirtual 61, 3) := by decide +kernel
theorem dX8_howDeep_50 : decode cX8_howDeep 50 = .ok (.aload_n 0, 1) := by decide +kernel
theorem dX8_howDeep_51 : decode cX8_howDeep 51 = .ok (.getfield 22, 3) := by decide +kernel
theorem dX8_howDeep_54 : decode cX8_howDeep 54 = .ok (.iload 4, 2) := by decide +kernel
theorem dX8_howDeep_56 : decode cX8_howDeep 56 = .ok (.invokevirtual 72, 3) := by decide +kernel
theorem dX8_howDeep_59 : decode cX8_howDeep 59 = .ok (.aload_n 0, 1) := by decide +kernel
theorem dX8_howDeep_60 : decode cX8_howDeep 60 = .ok (.getfield 26, 3) := by decide +kernel
theorem dX8_howDeep_63 : decode cX8_howDeep 63 = .ok (.invokevirtual 48, 3) := by decide +kernel
theorem dX8_howDeep_66 : decode cX8_howDeep 66 = .ok (.iinc 4 1, 3) := by decide +kernel
theorem dX8_howDeep_69 : decode cX8_howDeep 69 = .ok (.goto (-36), 3) := by decide +kernel
theorem dX8_howDeep_72 : decode cX8_howDeep 72 = .ok (.aload_n 0, 1) := by decide +kernel
theorem dX8_howDeep_73 : decode cX8_howDeep 73 = .ok (.getfield 26, 3) := by decide +kernel
theorem dX8_howDeep_76 : decode cX8_howDeep 76 = .ok (.invokevirtual 52, 3) := by decide +kernel
theorem dX8_howDeep_79 : decode cX8_howDeep 79 = .ok (.ifCond .ne 5, 3) := by decide +kernel
theorem dX8_howDeep_82 : decode cX8_howDeep 82 = .ok (.iload_n 3, 1) := by decide +kernel
theorem dX8_howDeep_83 : decode cX8_howDeep 83 = .ok (.ireturn, 1) := by decide +kernel
theorem dX8_howDeep_84 : decode cX8_howDeep 84 = .ok (.aload_n 0, 1) := by decide +kernel
theorem dX8_howDeep_85 : decode cX8_howDeep 85 = .ok (.getfield 26, 3) := by decide +kernel
theorem dX8_howDeep_88 : decode cX8_howDeep 88 = .ok (.astore 4, 2) := by decide +kernel
theorem dX8_howDeep_90 : decode cX8_howDeep 90 = .ok (.aload_n 0, 1) := by decide +kernel
theorem dX8_howDeep_91 : decode cX8_howDeep 91 = .ok (.aload_n 0, 1) := by decide +kernel
theorem dX8_howDeep_92 : decode cX8_howDeep 92 = .ok (.getfield 22, 3) := by decide +kernel
theorem dX8_howDeep_95 : decode cX8_howDeep 95 = .ok (.putfield 26, 3) := by decide +kernel
theorem dX8_howDeep_98 : decode cX8_howDeep 98 = .ok (.aload_n 0, 1) := by decide +kernel
theorem dX8_howDeep_99 : decode cX8_howDeep 99 = .ok (.aload 4, 2) := by decide +kernel
theorem dX8_howDeep_101 : decode cX8_howDeep 101 = .ok (.putfield 22, 3) := by decide +kernel
theorem dX8_howDeep_104 : decode cX8_howDeep 104 = .ok (.iinc 3 1, 3) := by decide +kernel
theorem dX8_howDeep_107 : decode cX8_howDeep 107 = .ok (.goto (-90), 3) := by decide +kernel
theorem dX8_howDeep_110 : decode cX8_howDeep 110 = .ok (.bipush 100, 2) := by decide +kernel
theorem dX8_howDeep_112 : decode cX8_howDeep 112 = .ok (.ireturn, 1) := by decide +kernel
theorem dX8_spread_0 : decode cX8_spread 0 = .ok (.aload_n 0, 1) := by decide +kernel
theorem dX8_spread_1 : decode cX8_spread 1 = .ok (.getfield 22, 3) := by decide +kernel
theorem dX8_spread_4 : decode cX8_spread 4 = .ok (.invokevirtual 45, 3) := by decide +kernel
theorem dX8_spread_7 : decode cX8_spread 7 = .ok (.aload_n 0, 1) := by decide +kernel
theorem dX8_spread_8 : decode cX8_spread 8 = .ok (.getfield 22, 3) := by decide +kernel
theorem dX8_spread_11 : decode cX8_spread 11 = .ok (.iload_n 2, 1) := by decide +kernel
theorem dX8_spread_12 : decode cX8_spread 12 = .ok (.invokevirtual 68, 3) := by decide +kernel
theorem dX8_spread_15 : decode cX8_spread 15 = .ok (.aload_n 0, 1) := by decide +kernel
theorem dX8_spread_16 : decode cX8_spread 16 = .ok (.iconst 0, 1) := by decide +kernel
theorem dX8_spread_17 : decode cX8_spread 17 = .ok (.iconst 0, 1) := by decide +kernel
theorem dX8_spread_18 : decode cX8_spread 18 = .ok (.invokevirtual 76, 3) := by decide +kernel
theorem dX8_spread_21 : decode cX8_spread 21 = .ok (.iconst 0, 1) := by decide +kernel
theorem dX8_spread_22 : decode cX8_spread 22 = .ok (.istore_n 3, 1) := by decide +kernel
theorem dX8_spread_23 : decode cX8_spread 23 = .ok (.iload_n 3, 1) := by decide +kernel
theorem dX8_spread_24 : decode cX8_spread 24 = .ok (.aload_n 0, 1) := by decide +kernel
theorem dX8_spread_25 : decode cX8_spread 25 = .ok (.getfield 22, 3) := by decide +kernel
theorem dX8_spread_28 : decode cX8_spread 28 = .ok (.invokevirtual 52, 3) := by decide +kernel
theorem dX8_spread_31 : decode cX8_spread 31 = .ok (.if_icmp .ge 59, 3) := by decide +kernel
theorem dX8_spread_34 : decode cX8_spread 34 = .ok (.iload_n 3, 1) := by decide +kernel
theorem dX8_spread_35 : decode cX8_spread 35 = .ok (.bipush 100, 2) := by decide +kernel
theorem dX8_spread_37 : decode cX8_spread 37 = .ok (.if_icmp .ge 53, 3) := by decide +kernel
theorem dX8_spread_40 : decode cX8_spread 40 = .ok (.aload_n 0, 1) := by decide +kernel
theorem dX8_spread_41 : decode cX8_spread 41 = .ok (.getfield 22, 3) := by decide +kernel
theorem dX8_spread_44 : decode cX8_spread 44 = .ok (.iload_n 3, 1) := by decide +kernel
theorem dX8_spread_45 : decode cX8_spread 45 = .ok (.invokevirtual 72, 3) := by decide +kernel
theorem dX8_spread_48 : decode cX8_spread 48 = .ok (.istore 4, 2) := by decide +kernel
theorem dX8_spread_50 : decode cX8_spread 50 = .ok (.aload_n 0, 1) := by decide +kernel
theorem dX8_spread_51 : decode cX8_spread 51 = .ok (.getfield 22, 3) := by decide +kernel
theorem dX8_spread_54 : decode cX8_spread 54 = .ok (.invokevirtual 52, 3) := by decide +kernel
theorem dX8_spread_57 : decode cX8_spread 57 = .ok (.istore 5, 2) := by decide +kernel
theorem dX8_spread_59 : decode cX8_spread 59 = .ok (.aload_n 0, 1) := by decide +kernel
theorem dX8_spread_60 : decode cX8_spread 60 = .ok (.aload_n 1, 1) := by decide +kernel
theorem dX8_spread_61 : decode cX8_spread 61 = .ok (.iload 4, 2) := by decide +kernel
theorem dX8_spread_63 : decode cX8_spread 63 = .ok (.aload_n 0, 1) := by decide +kernel
theorem dX8_spread_64 : decode cX8_spread 64 = .ok (.getfield 22, 3) := by decide +kernel
theorem dX8_spread_67 : decode cX8_spread 67 = .ok (.invokevirtual 48, 3) := by decide +kernel
theorem dX8_spread_70 : decode cX8_spread 70 = .ok (.aload_n 0, 1) := by decide +kernel
theorem dX8_spread_71 : decode cX8_spread 71 = .ok (.iload 5, 2) := by decide +kernel
theorem dX8_spread_73 : decode cX8_spread 73 = .ok (.aload_n 0, 1) := by decide +kernel
theorem dX8_spread_74 : decode cX8_spread 74 = .ok (.iload 4, 2) := by decide +kernel
theorem dX8_spread_76 : decode cX8_spread 76 = .ok (.invokevirtual 80, 3) := by decide +kernel
theorem dX8_spread_79 : decode cX8_spread 79 = .ok (.iconst 1, 1) := by decide +kernel
theorem dX8_spread_80 : decode cX8_spread 80 = .ok (.iadd, 1) := by decide +kernel
theorem dX8_spread_81 : decode cX8_spread 81 = .ok (.invokevirtual 76, 3) := by decide +kernel
theorem dX8_spread_84 : decode cX8_spread 84 = .ok (.iinc 3 1, 3) := by decide +kernel
theorem dX8_spread_87 : decode cX8_spread 87 = .ok (.goto (-64), 3) := by decide +kernel
theorem dX8_spread_90 : decode cX8_spread 90 = .ok (.aload_n 0, 1) := by decide +kernel
theorem dX8_spread_91 : decode cX8_spread 91 = .ok (.getfield 22, 3) := by decide +kernel
theorem dX8_spread_94 : decode cX8_spread 94 = .ok (.areturn, 1) := by decide +kernel
theorem dX8_stepsTo_0 : decode cX8_stepsTo 0 = .ok (.aload_n 0, 1) := by decide +kernel
theorem dX8_stepsTo_1 : decode cX8_stepsTo 1 = .ok (.getfield 22, 3) := by decide +kernel
theorem dX8_stepsTo_4 : decode cX8_stepsTo 4 = .ok (.iload_n 1, 1) := by decide +kernel
theorem dX8_stepsTo_5 : decode cX8_stepsTo 5 = .ok (.invokevirtual 83, 3) := by decide +kernel
theorem dX8_stepsTo_8 : decode cX8_stepsTo 8 = .ok (.ifCond .eq 12, 3) := by decide +kernel
theorem dX8_stepsTo_11 : decode cX8_stepsTo 11 = .ok (.aload_n 0, 1) := by decide +kernel
theorem dX8_stepsTo_12 : decode cX8_stepsTo 12 = .ok (.getfield 15, 3) := by decide +kernel
theorem dX8_stepsTo_15 : decode cX8_stepsTo 15 = .ok (.iload_n 1, 1) := by decide +kernel
theorem dX8_stepsTo_16 : decode cX8_stepsTo 16 = .ok (.iaload, 1) := by decide +kernel
theorem dX8_stepsTo_17 : decode cX8_stepsTo 17 = .ok (.goto 4, 3) := by decide +kernel
theorem dX8_stepsTo_20 : decode cX8_stepsTo 20 = .ok (.iconst (-1), 1) := by decide +kernel
theorem dX8_stepsTo_21 : decode cX8_stepsTo 21 = .ok (.ireturn, 1) := by decide +kernel
theorem dX8_findWay_0 : decode cX8_findWay 0 = .ok (.aload_n 0, 1) := by decide +kernel
theorem dX8_findWay_1 : decode cX8_findWay 1 = .ok (.aload_n 1, 1) := by decide +kernel
theorem dX8_findWay_2 : decode cX8_findWay 2 = .ok (.invokevirtual 61, 3) := by decide +kernel
theorem dX8_findWay_5 : decode cX8_findWay 5 = .ok (.iload_n 3, 1) := by decide +kernel
theorem dX8_findWay_6 : decode cX8_findWay 6 = .ok (.invokevirtual 64, 3) := by decide +kernel
theorem dX8_findWay_9 : decode cX8_findWay 9 = .ok (.pop, 1) := by decide +kernel
theorem dX8_findWay_10 : decode cX8_findWay 10 = .ok (.aload_n 0, 1) := by decide +kernel
theorem dX8_findWay_11 : decode cX8_findWay 11 = .ok (.getfield 22, 3) := by decide +kernel
theorem dX8_findWay_14 : decode cX8_findWay 14 = .ok (.iload_n 2, 1) := by decide +kernel
theorem dX8_findWay_15 : decode cX8_findWay 15 = .ok (.invokevirtual 83, 3) := by decide +kernel
theorem dX8_findWay_18 : decode cX8_findWay 18 = .ok (.ifCond .ne 5, 3) := by decide +kernel
theorem dX8_findWay_21 : decode cX8_findWay 21 = .ok (.iconst 0, 1) := by decide +kernel
theorem dX8_findWay_22 : decode cX8_findWay 22 = .ok (.ireturn, 1) := by decide +kernel
theorem dX8_findWay_23 : decode cX8_findWay 23 = .ok (.aload 4, 2) := by decide +kernel
theorem dX8_findWay_25 : decode cX8_findWay 25 = .ok (.invokevirtual 87, 3) := by decide +kernel
theorem dX8_findWay_28 : decode cX8_findWay 28 = .ok (.aload 4, 2) := by decide +kernel
theorem dX8_findWay_30 : decode cX8_findWay 30 = .ok (.aload_n 1, 1) := by decide +kernel
theorem dX8_findWay_31 : decode cX8_findWay 31 = .ok (.iload_n 2, 1) := by decide +kernel
theorem dX8_findWay_32 : decode cX8_findWay 32 = .ok (.invokevirtual 90, 3) := by decide +kernel
theorem dX8_findWay_35 : decode cX8_findWay 35 = .ok (.invokevirtual 93, 3) := by decide +kernel
theorem dX8_findWay_38 : decode cX8_findWay 38 = .ok (.iload_n 2, 1) := by decide +kernel
theorem dX8_findWay_39 : decode cX8_findWay 39 = .ok (.istore 5, 2) := by decide +kernel
theorem dX8_findWay_41 : decode cX8_findWay 41 = .ok (.aload_n 0, 1) := by decide +kernel
theorem dX8_findWay_42 : decode cX8_findWay 42 = .ok (.iload_n 2, 1) := by decide +kernel
theorem dX8_findWay_43 : decode cX8_findWay 43 = .ok (.invokevirtual 80, 3) := by decide +kernel
theorem dX8_findWay_46 : decode cX8_findWay 46 = .ok (.iconst 1, 1) := by decide +kernel
theorem dX8_findWay_47 : decode cX8_findWay 47 = .ok (.isub, 1) := by decide +kernel
theorem dX8_findWay_48 : decode cX8_findWay 48 = .ok (.istore 6, 2) := by decide +kernel
theorem dX8_findWay_50 : decode cX8_findWay 50 = .ok (.iload 6, 2) := by decide +kernel
theorem dX8_findWay_52 : decode cX8_findWay 52 = .ok (.ifCond .lt 31, 3) := by decide +kernel
theorem dX8_findWay_55 : decode cX8_findWay 55 = .ok (.aload_n 0, 1) := by decide +kernel
theorem dX8_findWay_56 : decode cX8_findWay 56 = .ok (.aload_n 1, 1) := by decide +kernel
theorem dX8_findWay_57 : decode cX8_findWay 57 = .ok (.iload 5, 2) := by decide +kernel
theorem dX8_findWay_59 : decode cX8_findWay 59 = .ok (.iload 6, 2) := by decide +kernel
theorem dX8_findWay_61 : decode cX8_findWay 61 = .ok (.invokevirtual 94, 3) := by decide +kernel
theorem dX8_findWay_64 : decode cX8_findWay 64 = .ok (.istore 5, 2) := by decide +kernel
theorem dX8_findWay_66 : decode cX8_findWay 66 = .ok (.aload 4, 2) := by decide +kernel
theorem dX8_findWay_68 : decode cX8_findWay 68 = .ok (.aload_n 1, 1) := by decide +kernel
theorem dX8_findWay_69 : decode cX8_findWay 69 = .ok (.iload 5, 2) := by decide +kernel
theorem dX8_findWay_71 : decode cX8_findWay 71 = .ok (.invokevirtual 90, 3) := by decide +kernel
theorem dX8_findWay_74 : decode cX8_findWay 74 = .ok (.invokevirtual 93, 3) := by decide +kernel
theorem dX8_findWay_77 : decode cX8_findWay 77 = .ok (.iinc 6 (-1), 3) := by decide +kernel
theorem dX8_findWay_80 : decode cX8_findWay 80 = .ok (.goto (-30), 3) := by decide +kernel
theorem dX8_findWay_83 : decode cX8_findWay 83 = .ok (.iconst 1, 1) := by decide +kernel
theorem dX8_findWay_84 : decode cX8_findWay 84 = .ok (.ireturn, 1) := by decide +kernel
theorem dX8_leastStep_0 : decode cX8_leastStep 0 = .ok (.aload_n 0, 1) := by decide +kernel
theorem dX8_leastStep_1 : decode cX8_leastStep 1 = .ok (.getfield 26, 3) := by decide +kernel
theorem dX8_leastStep_4 : decode cX8_leastStep 4 = .ok (.invokevirtual 45, 3) := by decide +kernel
theorem dX8_leastStep_7 : decode cX8_leastStep 7 = .ok (.aload_n 0, 1) := by decide +kernel
theorem dX8_leastStep_8 : decode cX8_leastStep 8 = .ok (.aload_n 1, 1) := by decide +kernel
theorem dX8_leastStep_9 : decode cX8_leastStep 9 = .ok (.invokevirtual 55, 3) := by decide +kernel
theorem dX8_leastStep_12 : decode cX8_leastStep 12 = .ok (.iload_n 2, 1) := by decide +kernel
theorem dX8_leastStep_13 : decode cX8_leastStep 13 = .ok (.aload_n 0, 1) := by decide +kernel
theorem dX8_leastStep_14 : decode cX8_leastStep 14 = .ok (.getfield 26, 3) := by decide +kernel
theorem dX8_leastStep_17 : decode cX8_leastStep 17 = .ok (.invokevirtual 48, 3) := by decide +kernel
theorem dX8_leastStep_20 : decode cX8_leastStep 20 = .ok (.iconst (-1), 1) := by decide +kernel
theorem dX8_leastStep_21 : decode cX8_leastStep 21 = .ok (.istore 4, 2) := by decide +kernel
theorem dX8_leastStep_23 : decode cX8_leastStep 23 = .ok (.iconst 0, 1) := by decide +kernel
theorem dX8_leastStep_24 : decode cX8_leastStep 24 = .ok (.istore 5, 2) := by decide +kernel
theorem dX8_leastStep_26 : decode cX8_leastStep 26 = .ok (.iload 5, 2) := by decide +kernel
theorem dX8_leastStep_28 : decode cX8_leastStep 28 = .ok (.aload_n 0, 1) := by decide +kernel
theorem dX8_leastStep_29 : decode cX8_leastStep 29 = .ok (.getfield 26, 3) := by decide +kernel
theorem dX8_leastStep_32 : decode cX8_leastStep 32 = .ok (.invokevirtual 52, 3) := by decide +kernel
theorem dX8_leastStep_35 : decode cX8_leastStep 35 = .ok (.if_icmp .ge 67, 3) := by decide +kernel
theorem dX8_leastStep_38 : decode cX8_leastStep 38 = .ok (.aload_n 0, 1) := by decide +kernel
theorem dX8_leastStep_39 : decode cX8_leastStep 39 = .ok (.getfield 26, 3) := by decide +kernel
theorem dX8_leastStep_42 : decode cX8_leastStep 42 = .ok (.iload 5, 2) := by decide +kernel
theorem dX8_leastStep_44 : decode cX8_leastStep 44 = .ok (.invokevirtual 72, 3) := by decide +kernel
theorem dX8_leastStep_47 : decode cX8_leastStep 47 = .ok (.istore 6, 2) := by decide +kernel
theorem dX8_leastStep_49 : decode cX8_leastStep 49 = .ok (.aload_n 0, 1) := by decide +kernel
theorem dX8_leastStep_50 : decode cX8_leastStep 50 = .ok (.iload 6, 2) := by decide +kernel
theorem dX8_leastStep_52 : decode cX8_leastStep 52 = .ok (.invokevirtual 80, 3) := by decide +kernel
theorem dX8_leastStep_55 : decode cX8_leastStep 55 = .ok (.iload_n 3, 1) := by decide +kernel
theorem dX8_leastStep_56 : decode cX8_leastStep 56 = .ok (.if_icmp .ne 7, 3) := by decide +kernel
theorem dX8_leastStep_59 : decode cX8_leastStep 59 = .ok (.iconst 1, 1) := by decide +kernel
theorem dX8_leastStep_60 : decode cX8_leastStep 60 = .ok (.goto 4, 3) := by decide +kernel
theorem dX8_leastStep_63 : decode cX8_leastStep 63 = .ok (.iconst 0, 1) := by decide +kernel
theorem dX8_leastStep_64 : decode cX8_leastStep 64 = .ok (.istore 7, 2) := by decide +kernel
theorem dX8_leastStep_66 : decode cX8_leastStep 66 = .ok (.iload 7, 2) := by decide +kernel
theorem dX8_leastStep_68 : decode cX8_leastStep 68 = .ok (.ifCond .eq 28, 3) := by decide +kernel
theorem dX8_leastStep_71 : decode cX8_leastStep 71 = .ok (.iload 4, 2) := by decide +kernel
theorem dX8_leastStep_73 : decode cX8_leastStep 73 = .ok (.iconst (-1), 1) := by decide +kernel
theorem dX8_leastStep_74 : decode cX8_leastStep 74 = .ok (.if_icmp .eq 18, 3) := by decide +kernel
theorem dX8_leastStep_77 : decode cX8_leastStep 77 = .ok (.aload_n 1, 1) := by decide +kernel
theorem dX8_leastStep_78 : decode cX8_leastStep 78 = .ok (.iload 6, 2) := by decide +kernel
theorem dX8_leastStep_80 : decode cX8_leastStep 80 = .ok (.invokevirtual 90, 3) := by decide +kernel
theorem dX8_leastStep_83 : decode cX8_leastStep 83 = .ok (.aload_n 1, 1) := by decide +kernel
theorem dX8_leastStep_84 : decode cX8_leastStep 84 = .ok (.iload 4, 2) := by decide +kernel
theorem dX8_leastStep_86 : decode cX8_leastStep 86 = .ok (.invokevirtual 90, 3) := by decide +kernel
theorem dX8_leastStep_89 : decode cX8_leastStep 89 = .ok (.if_icmp .ge 7, 3) := by decide +kernel
theorem dX8_leastStep_92 : decode cX8_leastStep 92 = .ok (.iload 6, 2) := by decide +kernel
theorem dX8_leastStep_94 : decode cX8_leastStep 94 = .ok (.istore 4, 2) := by decide +kernel
theorem dX8_leastStep_96 : decode cX8_leastStep 96 = .ok (.iinc 5 1, 3) := by decide +kernel
theorem dX8_leastStep_99 : decode cX8_leastStep 99 = .ok (.goto (-73), 3) := by decide +kernel
theorem dX8_leastStep_102 : decode cX8_leastStep 102 = .ok (.iload 4, 2) := by decide +kernel
theorem dX8_leastStep_104 : decode cX8_leastStep 104 = .ok (.ireturn, 1) := by decide +kernel
theorem dX8_noteSteps_0 : decode cX8_noteSteps 0 = .ok (.iload_n 1, 1) := by decide +kernel
theorem dX8_noteSteps_1 : decode cX8_noteSteps 1 = .ok (.istore_n 3, 1) := by decide +kernel
theorem dX8_noteSteps_2 : decode cX8_noteSteps 2 = .ok (.iload_n 3, 1) := by decide +kernel
theorem dX8_noteSteps_3 : decode cX8_noteSteps 3 = .ok (.aload_n 0, 1) := by decide +kernel
theorem dX8_noteSteps_4 : decode cX8_noteSteps 4 = .ok (.getfield 22, 3) := by decide +kernel
theorem dX8_noteSteps_7 : decode cX8_noteSteps 7 = .ok (.invokevirtual 52, 3) := by decide +kernel
theorem dX8_noteSteps_10 : decode cX8_noteSteps 10 = .ok (.if_icmp .ge 35, 3) := by decide +kernel
theorem dX8_noteSteps_13 : decode cX8_noteSteps 13 = .ok (.aload_n 0, 1) := by decide +kernel
theorem dX8_noteSteps_14 : decode cX8_noteSteps 14 = .ok (.getfield 22, 3) := by decide +kernel
theorem dX8_noteSteps_17 : decode cX8_noteSteps 17 = .ok (.iload_n 3, 1) := by decide +kernel
theorem dX8_noteSteps_18 : decode cX8_noteSteps 18 = .ok (.invokevirtual 72, 3) := by decide +kernel
theorem dX8_noteSteps_21 : decode cX8_noteSteps 21 = .ok (.istore 4, 2) := by decide +kernel
theorem dX8_noteSteps_23 : decode cX8_noteSteps 23 = .ok (.iload 4, 2) := by decide +kernel
theorem dX8_noteSteps_25 : decode cX8_noteSteps 25 = .ok (.invokestatic 98, 3) := by decide +kernel
theorem dX8_noteSteps_28 : decode cX8_noteSteps 28 = .ok (.ifCond .eq 11, 3) := by decide +kernel
theorem dX8_noteSteps_31 : decode cX8_noteSteps 31 = .ok (.aload_n 0, 1) := by decide +kernel
theorem dX8_noteSteps_32 : decode cX8_noteSteps 32 = .ok (.getfield 15, 3) := by decide +kernel
theorem dX8_noteSteps_35 : decode cX8_noteSteps 35 = .ok (.iload 4, 2) := by decide +kernel
theorem dX8_noteSteps_37 : decode cX8_noteSteps 37 = .ok (.iload_n 2, 1) := by decide +kernel
theorem dX8_noteSteps_38 : decode cX8_noteSteps 38 = .ok (.iastore, 1) := by decide +kernel
theorem dX8_noteSteps_39 : decode cX8_noteSteps 39 = .ok (.iinc 3 1, 3) := by decide +kernel
theorem dX8_noteSteps_42 : decode cX8_noteSteps 42 = .ok (.goto (-40), 3) := by decide +kernel
theorem dX8_noteSteps_45 : decode cX8_noteSteps 45 = .ok (.return_, 1) := by decide +kernel
end
section
def fX4_isSlot (p1 : Int) : Option (Int) :=
  tl_gd (tl_R p1) (if p1 < 0 then some (0 : Int) else tl_gd (tl_R p1 ∧ tl_R (100 : Int)) (if p1 < (100 : Int) then some (1 : Int) else some (0 : Int)))
def fX4_length (v_this_length : Int) : Option (Int) :=
  some v_this_length
def fX4_get (v_this_length : Int) (v_list : Nat → Int) (p1 : Int) : Option (Int) :=
  tl_gd (tl_R p1) (if p1 < 0 then some (-1 : Int) else tl_gd (tl_R p1 ∧ tl_R v_this_length) (if p1 < v_this_length then tl_gd (tl_in p1 100) (some (v_list p1.toNat)) else some (-1 : Int)))
def fX4_holds (v_this_length : Int) (v_inside : Nat → Int) (p1 : Int) : Option (Int) :=
  (fX4_isSlot p1).bind fun z1 => tl_gd (tl_R z1) (if z1 = 0 then some (0 : Int) else tl_gd (tl_in p1 100) (tl_gd (tl_R (v_inside p1.toNat)) (if v_inside p1.toNat = 0 then some (0 : Int) else some (1 : Int))))
def fX4_add (v_this_length : Int) (v_inside : Nat → Int) (v_list : Nat → Int) (p1 : Int) : Option ((Nat → Int) × (Nat → Int) × Int) :=
  (fX4_isSlot p1).bind fun z1 => tl_gd (tl_R z1) (if z1 = 0 then some (v_inside, v_list, v_this_length) else tl_gd (tl_in p1 100) (tl_gd (tl_R (v_inside p1.toNat)) (if v_inside p1.toNat = 0 then tl_gd (tl_R v_this_length ∧ tl_R (100 : Int)) (if v_this_length < (100 : Int) then tl_gd (tl_in p1 100 ∧ ((1 : Int) = 0 ∨ (1 : Int) = 1)) (tl_gd (tl_in v_this_length 100) (some (va_up v_inside p1.toNat (1 : Int), va_up v_list v_this_length.toNat p1, v_this_length + (1 : Int)))) else some (v_inside, v_list, v_this_length)) else some (v_inside, v_list, v_this_length))))
def fX4_clear_L1 (v_this_length : Int) (v_list : Nat → Int) : Nat → Int → (Nat → Int) → Option (Nat → Int)
  | 0, _, _ => none
  | n + 1, x1, x2 => tl_gd (tl_R x1 ∧ tl_R v_this_length) (if x1 < v_this_length then tl_gd (tl_in x1 100) (tl_gd (tl_in (v_list x1.toNat) 100 ∧ ((0 : Int) = 0 ∨ (0 : Int) = 1)) (fX4_clear_L1 v_this_length v_list n (x1 + 1) (va_up x2 ((v_list x1.toNat).toNat) (0 : Int)))) else some x2)
def fX4_clear (v_this_length : Int) (v_inside : Nat → Int) (v_list : Nat → Int) : Option ((Nat → Int) × Int) :=
  (fX4_clear_L1 v_this_length v_list tl_N (0 : Int) v_inside).bind fun x2 => some (x2, (0 : Int))
def fX5_howMany (v_this_length : Int) : Option (Int) :=
  some v_this_length
def fX5_knows (v_this_length : Int) (p1 : Int) : Option (Int) :=
  tl_gd (tl_R p1) (if p1 < 0 then some (0 : Int) else tl_gd (tl_R p1 ∧ tl_R v_this_length) (if p1 < v_this_length then some (1 : Int) else some (0 : Int)))
def fX5_tell (v_this_length : Int) (v_forms : Nat → Int) (v_from : Nat → Int) (v_rules : Nat → Int) (v_to : Nat → Int) (p1 : Int) (p2 : Int) (p3 : Int) (p4 : Int) : Option (Int × (Nat → Int) × (Nat → Int) × (Nat → Int) × (Nat → Int) × Int) :=
  tl_gd (tl_R v_this_length ∧ tl_R (10 : Int)) (if v_this_length < (10 : Int) then tl_gd (tl_in v_this_length 10) (tl_gd (tl_in v_this_length 10) (tl_gd (tl_in v_this_length 10) (tl_gd (tl_in v_this_length 10) (some ((v_this_length + (1 : Int)) - (1 : Int), va_up v_forms v_this_length.toNat p3, va_up v_from v_this_length.toNat p1, va_up v_rules v_this_length.toNat p4, va_up v_to v_this_length.toNat p2, v_this_length + (1 : Int)))))) else some ((-1 : Int), v_forms, v_from, v_rules, v_to, v_this_length))
def fX5_fromKind (v_this_length : Int) (v_from : Nat → Int) (p1 : Int) : Option (Int) :=
  (fX5_knows v_this_length p1).bind fun z1 => tl_gd (tl_R z1) (if z1 = 0 then some (-1 : Int) else tl_gd (tl_in p1 10) (some (v_from p1.toNat)))
def fX5_toKind (v_this_length : Int) (v_to : Nat → Int) (p1 : Int) : Option (Int) :=
  (fX5_knows v_this_length p1).bind fun z1 => tl_gd (tl_R z1) (if z1 = 0 then some (-1 : Int) else tl_gd (tl_in p1 10) (some (v_to p1.toNat)))
def fX5_hasForm (v_this_length : Int) (v_forms : Nat → Int) (p1 : Int) (p2 : Int) : Option (Int) :=
  (fX5_knows v_this_length p1).bind fun z1 => tl_gd (tl_R z1) (if z1 = 0 then some (0 : Int) else tl_gd (tl_in p1 10) (tl_gd (tl_R (v_forms p1.toNat) ∧ tl_R p2) (if v_forms p1.toNat = p2 then some (1 : Int) else some (0 : Int))))
def fX5_hasRule (v_this_length : Int) (v_rules : Nat → Int) (p1 : Int) (p2 : Int) : Option (Int) :=
  (fX5_knows v_this_length p1).bind fun z1 => tl_gd (tl_R z1) (if z1 = 0 then some (0 : Int) else tl_gd (tl_in p1 10) (tl_gd (tl_R (v_rules p1.toNat) ∧ tl_R p2) (if v_rules p1.toNat = p2 then some (1 : Int) else some (0 : Int))))
def fX6_length (v_this_length : Int) : Option (Int) :=
  some v_this_length
def fX6_get (v_this_length : Int) (v_numbers : Nat → Int) (p1 : Int) : Option (Int) :=
  tl_gd (tl_R p1) (if p1 < 0 then some (-1 : Int) else tl_gd (tl_R p1 ∧ tl_R v_this_length) (if p1 < v_this_length then tl_gd (tl_in p1 100) (some (v_numbers p1.toNat)) else some (-1 : Int)))
def fX6_clear (v_this_length : Int) : Option (Int) :=
  some (0 : Int)
def fX6_add (v_this_length : Int) (v_numbers : Nat → Int) (p1 : Int) : Option ((Nat → Int) × Int) :=
  tl_gd (tl_R v_this_length ∧ tl_R (100 : Int)) (if v_this_length < (100 : Int) then tl_gd (tl_in v_this_length 100) (some (va_up v_numbers v_this_length.toNat p1, v_this_length + (1 : Int))) else some (v_numbers, v_this_length))
def fX3_isRow (p1 : Int) (p2 : Int) : Option (Int) :=
  tl_gd (tl_R p1) (if p1 < 0 then some (0 : Int) else tl_gd (tl_R p1 ∧ tl_R (10 : Int)) (if p1 < (10 : Int) then tl_gd (tl_R p2) (if p2 < 0 then some (0 : Int) else tl_gd (tl_R p2 ∧ tl_R (100 : Int)) (if p2 < (100 : Int) then some (1 : Int) else some (0 : Int))) else some (0 : Int)))
def fX3_rowOf (p1 : Int) (p2 : Int) : Option (Int) :=
  some ((p1 * (100 : Int)) + p2)
def fX3_lengthOf (v_lengths : Nat → Int) (p1 : Int) (p2 : Int) : Option (Int) :=
  (fX3_isRow p1 p2).bind fun z1 => tl_gd (tl_R z1) (if z1 = 0 then some (0 : Int) else (fX3_rowOf p1 p2).bind fun z2 => tl_gd (tl_in z2 1000) (some (v_lengths z2.toNat)))
def fX3_read (v_words : Nat → Int64) (p1 : Int) (p2 : Int) : Option (Int) :=
  tl_gd (0 ≤ p2 ∧ p2 ≤ 2147483647 ∧ 0 < (6 : Int) ∧ (6 : Int) ≤ 2147483647) (tl_gd (tl_in ((p1 * (2 : Int)) + (p2 / (6 : Int))) 2000) (tl_gd (0 ≤ p2 ∧ p2 ≤ 2147483647 ∧ 0 < (6 : Int) ∧ (6 : Int) ≤ 2147483647) (some (tl_l2i ((tl_lushr (v_words ((p1 * (2 : Int)) + (p2 / (6 : Int))).toNat) ((p2 % (6 : Int)) * (8 : Int))) &&& (255 : Int64))))))
def fX3_get (v_lengths : Nat → Int) (v_words : Nat → Int64) (p1 : Int) (p2 : Int) (p3 : Int) : Option (Int) :=
  tl_gd (tl_R p3) (if p3 < 0 then some (-1 : Int) else (fX3_lengthOf v_lengths p1 p2).bind fun z1 => tl_gd (tl_R p3 ∧ tl_R z1) (if p3 < z1 then (fX3_rowOf p1 p2).bind fun z2 => (fX3_read v_words z2 p3).bind fun z3 => some z3 else some (-1 : Int)))
def fX3_holds_L1 (v_words : Nat → Int64) (p1 : Int) (p2 : Int) (p3 : Int) (z1 : Int) : Nat → Int → Option ((Unit) ⊕ (Int))
  | 0, _ => none
  | n + 1, x2 => tl_gd (tl_R x2 ∧ tl_R z1) (if x2 < z1 then (fX3_rowOf p1 p2).bind fun z3 => (fX3_read v_words z3 x2).bind fun z4 => tl_gd (tl_R z4 ∧ tl_R p3) (if z4 = p3 then some (.inr (1 : Int)) else fX3_holds_L1 v_words p1 p2 p3 z1 n (x2 + 1)) else some (.inl ()))
def fX3_holds (v_lengths : Nat → Int) (v_words : Nat → Int64) (p1 : Int) (p2 : Int) (p3 : Int) : Option (Int) :=
  (fX3_lengthOf v_lengths p1 p2).bind fun z1 => (fX3_holds_L1 v_words p1 p2 p3 z1 tl_N (0 : Int)).bind fun o => match o with | .inl _ => some (0 : Int) | .inr r => some r
def fX3_addTo_L1 (v_words : Nat → Int64) (p2 : Int) (p3 : Int) (z1 : Int) : Nat → Int → Int → (Nat → Int) → (Nat → Int) → Option (Int × (Nat → Int) × (Nat → Int))
  | 0, _, _, _, _ => none
  | n + 1, x2, x3, x4, x5 => tl_gd (tl_R x2 ∧ tl_R z1) (if x2 < z1 then (fX3_rowOf p2 p3).bind fun z6 => (fX3_read v_words z6 x2).bind fun z7 => (fX4_add x3 x4 x5 z7).bind fun z8 => fX3_addTo_L1 v_words p2 p3 z1 n (x2 + 1) z8.2.2 z8.1 z8.2.1 else some (x3, x4, x5))
def fX3_addTo (v_lengths : Nat → Int) (v_words : Nat → Int64) (v_p1_length : Int) (v_p1_inside : Nat → Int) (v_p1_list : Nat → Int) (p2 : Int) (p3 : Int) : Option ((Nat → Int) × (Nat → Int) × Int) :=
  (fX3_lengthOf v_lengths p2 p3).bind fun z1 => (fX3_addTo_L1 v_words p2 p3 z1 tl_N (0 : Int) v_p1_length v_p1_inside v_p1_list).bind fun z9 => match z9 with | (x3, x4, x5) => some (x4, x5, x3)
def fX3_write (v_words : Nat → Int64) (p1 : Int) (p2 : Int) (p3 : Int) : Option (Nat → Int64) :=
  tl_gd (0 ≤ p2 ∧ p2 ≤ 2147483647 ∧ 0 < (6 : Int) ∧ (6 : Int) ≤ 2147483647) (tl_gd (0 ≤ p2 ∧ p2 ≤ 2147483647 ∧ 0 < (6 : Int) ∧ (6 : Int) ≤ 2147483647) (tl_gd (tl_in ((p1 * (2 : Int)) + (p2 / (6 : Int))) 2000) (tl_gd (tl_in ((p1 * (2 : Int)) + (p2 / (6 : Int))) 2000) (some (va_up v_words (((p1 * (2 : Int)) + (p2 / (6 : Int))).toNat) (((v_words ((p1 * (2 : Int)) + (p2 / (6 : Int))).toNat) &&& ((tl_lshl (255 : Int64) ((p2 % (6 : Int)) * (8 : Int))) ^^^ (-1 : Int64))) ||| (tl_lshl (tl_i2l p3) ((p2 % (6 : Int)) * (8 : Int)))))))))
def fX3_insert_L1 (p3 : Int) (z3 : Int) : Nat → Int → (Nat → Int64) → Option (Nat → Int64)
  | 0, _, _ => none
  | n + 1, x4, x5 => tl_gd (tl_R x4 ∧ tl_R p3) (if p3 < x4 then (fX3_read x5 z3 (x4 - (1 : Int))).bind fun z6 => (fX3_write x5 z3 x4 z6).bind fun z7 => fX3_insert_L1 p3 z3 n (x4 + (-1)) z7 else some x5)
def fX3_insert (v_lengths : Nat → Int) (v_words : Nat → Int64) (p1 : Int) (p2 : Int) (p3 : Int) (p4 : Int) : Option ((Nat → Int) × (Nat → Int64)) :=
  (fX3_isRow p1 p2).bind fun z1 => tl_gd (tl_R z1) (if z1 = 0 then some (v_lengths, v_words) else (fX4_isSlot p4).bind fun z2 => tl_gd (tl_R z2) (if z2 = 0 then some (v_lengths, v_words) else (fX3_rowOf p1 p2).bind fun z3 => tl_gd (tl_in z3 1000) (tl_gd (tl_R p3) (if p3 < 0 then some (v_lengths, v_words) else tl_gd (tl_R p3 ∧ tl_R (v_lengths z3.toNat)) (if v_lengths z3.toNat < p3 then some (v_lengths, v_words) else tl_gd (tl_R (v_lengths z3.toNat) ∧ tl_R (12 : Int)) (if v_lengths z3.toNat < (12 : Int) then (fX3_insert_L1 p3 z3 tl_N (v_lengths z3.toNat) v_words).bind fun x5 => (fX3_write x5 z3 p3 p4).bind fun z9 => tl_gd (tl_in z3 1000) (some (va_up v_lengths z3.toNat ((v_lengths z3.toNat) + (1 : Int)), z9)) else some (v_lengths, v_words)))))))
def fX3_append (v_lengths : Nat → Int) (v_words : Nat → Int64) (p1 : Int) (p2 : Int) (p3 : Int) : Option ((Nat → Int) × (Nat → Int64)) :=
  (fX3_lengthOf v_lengths p1 p2).bind fun z1 => (fX3_insert v_lengths v_words p1 p2 z1 p3).bind fun z2 => some (z2.1, z2.2)
def fX3_remove_L1 (v_lengths : Nat → Int) (p3 : Int) (z2 : Int) : Nat → Int → Int → (Nat → Int64) → Option (Int × (Nat → Int64))
  | 0, _, _, _ => none
  | n + 1, x3, x4, x5 => tl_gd (tl_R x3 ∧ tl_R (v_lengths z2.toNat)) (if x3 < v_lengths z2.toNat then (fX3_read x5 z2 x3).bind fun z6 => tl_gd (tl_R z6 ∧ tl_R p3) (if z6 = p3 then fX3_remove_L1 v_lengths p3 z2 n (x3 + 1) x4 x5 else (fX3_write x5 z2 x4 z6).bind fun z7 => fX3_remove_L1 v_lengths p3 z2 n (x3 + 1) (x4 + 1) z7) else some (x4, x5))
def fX3_remove (v_lengths : Nat → Int) (v_words : Nat → Int64) (p1 : Int) (p2 : Int) (p3 : Int) : Option (Int × (Nat → Int) × (Nat → Int64)) :=
  (fX3_isRow p1 p2).bind fun z1 => tl_gd (tl_R z1) (if z1 = 0 then some ((0 : Int), v_lengths, v_words) else (fX3_rowOf p1 p2).bind fun z2 => tl_gd (tl_in z2 1000) ((fX3_remove_L1 v_lengths p3 z2 tl_N (0 : Int) (0 : Int) v_words).bind fun z8 => match z8 with | (x4, x5) => tl_gd (tl_in z2 1000) (tl_gd (tl_R x4 ∧ tl_R (v_lengths z2.toNat)) (if x4 < v_lengths z2.toNat then some ((1 : Int), va_up v_lengths z2.toNat x4, x5) else some ((0 : Int), va_up v_lengths z2.toNat x4, x5)))))
def fX1_has (v_this_objects : Int) (v_this_pairs : Int) : Option (Unit) :=
  some ()
def fX1_had (v_this_objects : Int) (v_this_pairs : Int) : Option (Unit) :=
  some ()
def fX1_objects (v_this_objects : Int) (v_this_pairs : Int) : Option (Int) :=
  some v_this_objects
def fX1_pairs (v_this_objects : Int) (v_this_pairs : Int) : Option (Int) :=
  some v_this_pairs
def fX1_slotBearing_L1 (v_numbers : Nat → Int) (p1 : Int) : Nat → Int → Option ((Unit) ⊕ (Int))
  | 0, _ => none
  | n + 1, x1 => tl_gd (tl_R x1 ∧ tl_R (100 : Int)) (if x1 < (100 : Int) then tl_gd (tl_in x1 100) (tl_gd (tl_R (v_numbers x1.toNat) ∧ tl_R p1) (if v_numbers x1.toNat = p1 then some (.inr x1) else fX1_slotBearing_L1 v_numbers p1 n (x1 + 1))) else some (.inl ()))
def fX1_slotBearing (v_this_objects : Int) (v_this_pairs : Int) (v_numbers : Nat → Int) (p1 : Int) : Option (Int) :=
  (fX1_slotBearing_L1 v_numbers p1 tl_N (0 : Int)).bind fun o => match o with | .inl _ => some (-1 : Int) | .inr r => some r
def fX1_slotOf (v_this_objects : Int) (v_this_pairs : Int) (v_numbers : Nat → Int) (p1 : Int) : Option (Int) :=
  tl_gd (tl_R p1) (if p1 < 0 then some (-1 : Int) else (fX1_slotBearing v_this_objects v_this_pairs v_numbers p1).bind fun z1 => some z1)
def fX1_numberOf (v_this_objects : Int) (v_this_pairs : Int) (v_numbers : Nat → Int) (p1 : Int) : Option (Int) :=
  (fX4_isSlot p1).bind fun z1 => tl_gd (tl_R z1) (if z1 = 0 then some (-1 : Int) else tl_gd (tl_in p1 100) (some (v_numbers p1.toNat)))
def fX1_kindOf (v_this_objects : Int) (v_this_pairs : Int) (v_kinds : Nat → Int) (p1 : Int) : Option (Int) :=
  (fX4_isSlot p1).bind fun z1 => tl_gd (tl_R z1) (if z1 = 0 then some (-1 : Int) else tl_gd (tl_in p1 100) (some (v_kinds p1.toNat)))
def fX1_admit (v_this_objects : Int) (v_this_pairs : Int) (v_kinds : Nat → Int) (v_numbers : Nat → Int) (p1 : Int) (p2 : Int) : Option (Int × (Nat → Int) × (Nat → Int) × Int) :=
  (fX1_slotBearing v_this_objects v_this_pairs v_numbers (-1 : Int)).bind fun z1 => tl_gd (tl_R z1 ∧ tl_R (-1 : Int)) (if z1 = (-1 : Int) then some (z1, v_kinds, v_numbers, v_this_objects) else tl_gd (tl_in z1 100) (tl_gd (tl_in z1 100) (some (z1, va_up v_kinds z1.toNat p2, va_up v_numbers z1.toNat p1, v_this_objects + (1 : Int)))))
def fX1_separate (v_this_objects : Int) (v_this_pairs : Int) (v_had_lengths : Nat → Int) (v_had_words : Nat → Int64) (v_has_lengths : Nat → Int) (v_has_words : Nat → Int64) (p1 : Int) (p2 : Int) (p3 : Int) : Option (Int × (Nat → Int) × (Nat → Int64) × (Nat → Int) × (Nat → Int64) × Int) :=
  (fX3_remove v_has_lengths v_has_words p1 p2 p3).bind fun z1 => tl_gd (tl_R z1.1) (if z1.1 = 0 then some ((0 : Int), v_had_lengths, v_had_words, z1.2.1, z1.2.2, v_this_pairs) else (fX3_remove v_had_lengths v_had_words p1 p3 p2).bind fun z2 => some ((1 : Int), z2.2.1, z2.2.2, z1.2.1, z1.2.2, v_this_pairs - (1 : Int)))
def fX1_separateAll_L1 (v_this_objects : Int) (p1 : Int) (p2 : Int) : Nat → Int → Int → (Nat → Int) → (Nat → Int64) → (Nat → Int) → (Nat → Int64) → Option (Int × (Nat → Int) × (Nat → Int64) × (Nat → Int) × (Nat → Int64))
  | 0, _, _, _, _, _, _ => none
  | n + 1, x2, x3, x4, x5, x6, x7 => tl_gd (tl_R x2) (if x2 < 0 then some (x3, x4, x5, x6, x7) else (fX3_get x6 x7 p1 p2 x2).bind fun z8 => (fX1_separate v_this_objects x3 x4 x5 x6 x7 p1 p2 z8).bind fun z9 => fX1_separateAll_L1 v_this_objects p1 p2 n (x2 + (-1)) z9.2.2.2.2.2 z9.2.1 z9.2.2.1 z9.2.2.2.1 z9.2.2.2.2.1)
def fX1_separateAll_L2 (v_this_objects : Int) (p1 : Int) (p2 : Int) : Nat → Int → Int → (Nat → Int) → (Nat → Int64) → (Nat → Int) → (Nat → Int64) → Option (Int × (Nat → Int) × (Nat → Int64) × (Nat → Int) × (Nat → Int64))
  | 0, _, _, _, _, _, _ => none
  | n + 1, x12, x13, x14, x15, x16, x17 => tl_gd (tl_R x12) (if x12 < 0 then some (x13, x14, x15, x16, x17) else (fX3_get x14 x15 p1 p2 x12).bind fun z18 => (fX1_separate v_this_objects x13 x14 x15 x16 x17 p1 z18 p2).bind fun z19 => fX1_separateAll_L2 v_this_objects p1 p2 n (x12 + (-1)) z19.2.2.2.2.2 z19.2.1 z19.2.2.1 z19.2.2.2.1 z19.2.2.2.2.1)
def fX1_separateAll (v_this_objects : Int) (v_this_pairs : Int) (v_had_lengths : Nat → Int) (v_had_words : Nat → Int64) (v_has_lengths : Nat → Int) (v_has_words : Nat → Int64) (p1 : Int) (p2 : Int) : Option ((Nat → Int) × (Nat → Int64) × (Nat → Int) × (Nat → Int64) × Int) :=
  (fX3_lengthOf v_has_lengths p1 p2).bind fun z1 => (fX1_separateAll_L1 v_this_objects p1 p2 tl_N (z1 - (1 : Int)) v_this_pairs v_had_lengths v_had_words v_has_lengths v_has_words).bind fun z10 => match z10 with | (x3, x4, x5, x6, x7) => (fX3_lengthOf x4 p1 p2).bind fun z11 => (fX1_separateAll_L2 v_this_objects p1 p2 tl_N (z11 - (1 : Int)) x3 x4 x5 x6 x7).bind fun z20 => match z20 with | (x13, x14, x15, x16, x17) => some (x14, x15, x16, x17, x13)
def fX1_remove_L1 (v_this_objects : Int) (p1 : Int) : Nat → Int → Int → (Nat → Int) → (Nat → Int64) → (Nat → Int) → (Nat → Int64) → Option (Int × (Nat → Int) × (Nat → Int64) × (Nat → Int) × (Nat → Int64))
  | 0, _, _, _, _, _, _ => none
  | n + 1, x2, x3, x4, x5, x6, x7 => tl_gd (tl_R x2 ∧ tl_R (10 : Int)) (if x2 < (10 : Int) then (fX1_separateAll v_this_objects x3 x4 x5 x6 x7 x2 p1).bind fun z8 => fX1_remove_L1 v_this_objects p1 n (x2 + 1) z8.2.2.2.2 z8.1 z8.2.1 z8.2.2.1 z8.2.2.2.1 else some (x3, x4, x5, x6, x7))
def fX1_remove (v_this_objects : Int) (v_this_pairs : Int) (v_had_lengths : Nat → Int) (v_had_words : Nat → Int64) (v_has_lengths : Nat → Int) (v_has_words : Nat → Int64) (v_numbers : Nat → Int) (p1 : Int) : Option ((Nat → Int) × (Nat → Int64) × (Nat → Int) × (Nat → Int64) × (Nat → Int) × Int × Int) :=
  (fX1_numberOf v_this_objects v_this_pairs v_numbers p1).bind fun z1 => tl_gd (tl_R z1 ∧ tl_R (-1 : Int)) (if z1 = (-1 : Int) then some (v_had_lengths, v_had_words, v_has_lengths, v_has_words, v_numbers, v_this_objects, v_this_pairs) else (fX1_remove_L1 v_this_objects p1 tl_N (0 : Int) v_this_pairs v_had_lengths v_had_words v_has_lengths v_has_words).bind fun z9 => match z9 with | (x3, x4, x5, x6, x7) => tl_gd (tl_in p1 100) (some (x4, x5, x6, x7, va_up v_numbers p1.toNat (-1 : Int), v_this_objects - (1 : Int), x3)))
def fX1_isJoined (v_this_objects : Int) (v_this_pairs : Int) (v_has_lengths : Nat → Int) (v_has_words : Nat → Int64) (p1 : Int) (p2 : Int) (p3 : Int) : Option (Int) :=
  (fX3_holds v_has_lengths v_has_words p1 p2 p3).bind fun z1 => tl_gd (z1 = 0 ∨ z1 = 1) (some z1)
def fX1_join (v_this_objects : Int) (v_this_pairs : Int) (v_had_lengths : Nat → Int) (v_had_words : Nat → Int64) (v_has_lengths : Nat → Int) (v_has_words : Nat → Int64) (p1 : Int) (p2 : Int) (p3 : Int) (p4 : Int) : Option ((Nat → Int) × (Nat → Int64) × (Nat → Int) × (Nat → Int64) × Int) :=
  (fX3_insert v_has_lengths v_has_words p1 p2 p4 p3).bind fun z1 => (fX3_append v_had_lengths v_had_words p1 p3 p2).bind fun z2 => some (z2.1, z2.2, z1.1, z1.2, v_this_pairs + (1 : Int))
def fX1_joinHas (v_this_objects : Int) (v_this_pairs : Int) (v_has_lengths : Nat → Int) (v_has_words : Nat → Int64) (p1 : Int) (p2 : Int) (p3 : Int) : Option ((Nat → Int) × (Nat → Int64) × Int) :=
  (fX3_append v_has_lengths v_has_words p1 p2 p3).bind fun z1 => some (z1.1, z1.2, v_this_pairs + (1 : Int))
def fX1_joinHad (v_this_objects : Int) (v_this_pairs : Int) (v_had_lengths : Nat → Int) (v_had_words : Nat → Int64) (p1 : Int) (p2 : Int) (p3 : Int) : Option ((Nat → Int) × (Nat → Int64)) :=
  (fX3_append v_had_lengths v_had_words p1 p3 p2).bind fun z1 => some (z1.1, z1.2)
def fX8_addOwning_L1 (v_told_length : Int) (v_told_rules : Nat → Int) (v_p1_lengths : Nat → Int) (v_p1_words : Nat → Int64) (p2 : Int) : Nat → Int → Int → (Nat → Int) → (Nat → Int) → Option (Int × (Nat → Int) × (Nat → Int))
  | 0, _, _, _, _ => none
  | n + 1, x1, x2, x3, x4 => (fX5_howMany v_told_length).bind fun z5 => tl_gd (tl_R x1 ∧ tl_R z5) (if x1 < z5 then (fX5_hasRule v_told_length v_told_rules x1 (1 : Int)).bind fun z6 => tl_gd (tl_R z6) (if z6 = 0 then fX8_addOwning_L1 v_told_length v_told_rules v_p1_lengths v_p1_words p2 n (x1 + 1) x2 x3 x4 else (fX3_addTo v_p1_lengths v_p1_words x2 x3 x4 x1 p2).bind fun z7 => fX8_addOwning_L1 v_told_length v_told_rules v_p1_lengths v_p1_words p2 n (x1 + 1) z7.2.2 z7.1 z7.2.1) else some (x2, x3, x4))
def fX8_addOwning (v_told_length : Int) (v_told_rules : Nat → Int) (v_p1_lengths : Nat → Int) (v_p1_words : Nat → Int64) (v_p3_length : Int) (v_p3_inside : Nat → Int) (v_p3_list : Nat → Int) (p2 : Int) : Option ((Nat → Int) × (Nat → Int) × Int) :=
  (fX8_addOwning_L1 v_told_length v_told_rules v_p1_lengths v_p1_words p2 tl_N (0 : Int) v_p3_length v_p3_inside v_p3_list).bind fun z8 => match z8 with | (x2, x3, x4) => some (x3, x4, x2)
def fX8_howManyOwning (v_reached_length : Int) (v_reached_inside : Nat → Int) (v_reached_list : Nat → Int) (v_told_length : Int) (v_told_rules : Nat → Int) (v_p1_lengths : Nat → Int) (v_p1_words : Nat → Int64) (p2 : Int) : Option (Int × (Nat → Int) × (Nat → Int) × Int) :=
  (fX4_clear v_reached_length v_reached_inside v_reached_list).bind fun z1 => (fX8_addOwning v_told_length v_told_rules v_p1_lengths v_p1_words z1.2 z1.1 v_reached_list p2).bind fun z2 => (fX4_length z2.2.2).bind fun z3 => some (z3, z2.1, z2.2.1, z2.2.2)
def fX8_howManyNear_L1 (v_told_length : Int) (v_p1_objects : Int) (v_p1_pairs : Int) (v_p1_had_lengths : Nat → Int) (v_p1_had_words : Nat → Int64) (v_p1_has_lengths : Nat → Int) (v_p1_has_words : Nat → Int64) (p2 : Int) : Nat → Int → Int → (Nat → Int) → (Nat → Int) → Option (Int × (Nat → Int) × (Nat → Int))
  | 0, _, _, _, _ => none
  | n + 1, x2, x3, x4, x5 => (fX5_howMany v_told_length).bind fun z6 => tl_gd (tl_R x2 ∧ tl_R z6) (if x2 < z6 then (fX1_has v_p1_objects v_p1_pairs).bind fun z7 => (fX3_addTo v_p1_has_lengths v_p1_has_words x3 x4 x5 x2 p2).bind fun z8 => (fX1_had v_p1_objects v_p1_pairs).bind fun z9 => (fX3_addTo v_p1_had_lengths v_p1_had_words z8.2.2 z8.1 z8.2.1 x2 p2).bind fun z10 => fX8_howManyNear_L1 v_told_length v_p1_objects v_p1_pairs v_p1_had_lengths v_p1_had_words v_p1_has_lengths v_p1_has_words p2 n (x2 + 1) z10.2.2 z10.1 z10.2.1 else some (x3, x4, x5))
def fX8_howManyNear (v_reached_length : Int) (v_reached_inside : Nat → Int) (v_reached_list : Nat → Int) (v_told_length : Int) (v_p1_objects : Int) (v_p1_pairs : Int) (v_p1_had_lengths : Nat → Int) (v_p1_had_words : Nat → Int64) (v_p1_has_lengths : Nat → Int) (v_p1_has_words : Nat → Int64) (p2 : Int) : Option (Int × (Nat → Int) × (Nat → Int) × Int) :=
  (fX4_clear v_reached_length v_reached_inside v_reached_list).bind fun z1 => (fX8_howManyNear_L1 v_told_length v_p1_objects v_p1_pairs v_p1_had_lengths v_p1_had_words v_p1_has_lengths v_p1_has_words p2 tl_N (0 : Int) z1.2 z1.1 v_reached_list).bind fun z11 => match z11 with | (x3, x4, x5) => (fX4_length x3).bind fun z12 => some (z12, x4, x5, x3)
def fX8_noteSteps_L1 (v_reached_length : Int) (v_reached_list : Nat → Int) (p2 : Int) : Nat → Int → (Nat → Int) → Option (Nat → Int)
  | 0, _, _ => none
  | n + 1, x1, x2 => (fX4_length v_reached_length).bind fun z3 => tl_gd (tl_R x1 ∧ tl_R z3) (if x1 < z3 then (fX4_get v_reached_length v_reached_list x1).bind fun z4 => (fX4_isSlot z4).bind fun z5 => tl_gd (tl_R z5) (if z5 = 0 then fX8_noteSteps_L1 v_reached_length v_reached_list p2 n (x1 + 1) x2 else tl_gd (tl_in z4 100) (fX8_noteSteps_L1 v_reached_length v_reached_list p2 n (x1 + 1) (va_up x2 z4.toNat p2))) else some x2)
def fX8_noteSteps (v_reached_length : Int) (v_reached_list : Nat → Int) (v_steps : Nat → Int) (p1 : Int) (p2 : Int) : Option (Nat → Int) :=
  (fX8_noteSteps_L1 v_reached_length v_reached_list p2 tl_N p1 v_steps).bind fun x2 => some x2
def fX8_stepsTo (v_reached_length : Int) (v_reached_inside : Nat → Int) (v_steps : Nat → Int) (p1 : Int) : Option (Int) :=
  (fX4_holds v_reached_length v_reached_inside p1).bind fun z1 => tl_gd (tl_R z1) (if z1 = 0 then some (-1 : Int) else tl_gd (tl_in p1 100) (some (v_steps p1.toNat)))
def fX8_spread_L1 (v_told_length : Int) (v_told_rules : Nat → Int) (v_p1_lengths : Nat → Int) (v_p1_words : Nat → Int64) : Nat → Int → Int → (Nat → Int) → (Nat → Int) → (Nat → Int) → Option (Int × (Nat → Int) × (Nat → Int) × (Nat → Int))
  | 0, _, _, _, _, _ => none
  | n + 1, x4, x5, x6, x7, x8 => (fX4_length x5).bind fun z9 => tl_gd (tl_R x4 ∧ tl_R z9) (if x4 < z9 then tl_gd (tl_R x4 ∧ tl_R (100 : Int)) (if x4 < (100 : Int) then (fX4_get x5 x7 x4).bind fun z10 => (fX4_length x5).bind fun z11 => (fX8_addOwning v_told_length v_told_rules v_p1_lengths v_p1_words x5 x6 x7 z10).bind fun z12 => (fX8_stepsTo z12.2.2 z12.1 x8 z10).bind fun z13 => (fX8_noteSteps z12.2.2 z12.2.1 x8 z11 (z13 + (1 : Int))).bind fun z14 => fX8_spread_L1 v_told_length v_told_rules v_p1_lengths v_p1_words n (x4 + 1) z12.2.2 z12.1 z12.2.1 z14 else some (x5, x6, x7, x8)) else some (x5, x6, x7, x8))
def fX8_spread (v_reached_length : Int) (v_reached_inside : Nat → Int) (v_reached_list : Nat → Int) (v_steps : Nat → Int) (v_told_length : Int) (v_told_rules : Nat → Int) (v_p1_lengths : Nat → Int) (v_p1_words : Nat → Int64) (p2 : Int) : Option ((Nat → Int) × (Nat → Int) × (Nat → Int) × Int) :=
  (fX4_clear v_reached_length v_reached_inside v_reached_list).bind fun z1 => (fX4_add z1.2 z1.1 v_reached_list p2).bind fun z2 => (fX8_noteSteps z2.2.2 z2.2.1 v_steps (0 : Int) (0 : Int)).bind fun z3 => (fX8_spread_L1 v_told_length v_told_rules v_p1_lengths v_p1_words tl_N (0 : Int) z2.2.2 z2.1 z2.2.1 z3).bind fun z15 => match z15 with | (x5, x6, x7, x8) => some (x6, x7, x8, x5)
def fX8_howManyUnder (v_reached_length : Int) (v_reached_inside : Nat → Int) (v_reached_list : Nat → Int) (v_steps : Nat → Int) (v_told_length : Int) (v_told_rules : Nat → Int) (v_p1_objects : Int) (v_p1_pairs : Int) (v_p1_has_lengths : Nat → Int) (v_p1_has_words : Nat → Int64) (p2 : Int) : Option (Int × (Nat → Int) × (Nat → Int) × (Nat → Int) × Int) :=
  (fX1_has v_p1_objects v_p1_pairs).bind fun z1 => (fX8_spread v_reached_length v_reached_inside v_reached_list v_steps v_told_length v_told_rules v_p1_has_lengths v_p1_has_words p2).bind fun z2 => (fX4_length z2.2.2.2).bind fun z3 => some (z3 - (1 : Int), z2.1, z2.2.1, z2.2.2.1, z2.2.2.2)
def fX8_leastStep_L1 (v_reached_length : Int) (v_reached_inside : Nat → Int) (v_steps : Nat → Int) (v_p1_objects : Int) (v_p1_pairs : Int) (v_p1_numbers : Nat → Int) (p3 : Int) (z3 : (Nat → Int) × (Nat → Int) × Int) : Nat → Int → Int → Option (Int)
  | 0, _, _ => none
  | n + 1, x4, x5 => (fX4_length z3.2.2).bind fun z6 => tl_gd (tl_R x4 ∧ tl_R z6) (if x4 < z6 then (fX4_get z3.2.2 z3.2.1 x4).bind fun z7 => (fX8_stepsTo v_reached_length v_reached_inside v_steps z7).bind fun z8 => (tl_gd (tl_R z8 ∧ tl_R p3) (if z8 = p3 then some (1 : Int) else some (0 : Int)) : Option (Int)).bind (fun (z10 : Int) => tl_gd (tl_R z10) (if z10 = 0 then fX8_leastStep_L1 v_reached_length v_reached_inside v_steps v_p1_objects v_p1_pairs v_p1_numbers p3 z3 n (x4 + 1) x5 else tl_gd (tl_R x5 ∧ tl_R (-1 : Int)) (if x5 = (-1 : Int) then fX8_leastStep_L1 v_reached_length v_reached_inside v_steps v_p1_objects v_p1_pairs v_p1_numbers p3 z3 n (x4 + 1) z7 else (fX1_numberOf v_p1_objects v_p1_pairs v_p1_numbers z7).bind fun z11 => (fX1_numberOf v_p1_objects v_p1_pairs v_p1_numbers x5).bind fun z12 => tl_gd (tl_R z11 ∧ tl_R z12) (if z11 < z12 then fX8_leastStep_L1 v_reached_length v_reached_inside v_steps v_p1_objects v_p1_pairs v_p1_numbers p3 z3 n (x4 + 1) z7 else fX8_leastStep_L1 v_reached_length v_reached_inside v_steps v_p1_objects v_p1_pairs v_p1_numbers p3 z3 n (x4 + 1) x5)))) else some x5)
def fX8_leastStep (v_reached_length : Int) (v_reached_inside : Nat → Int) (v_spare_length : Int) (v_spare_inside : Nat → Int) (v_spare_list : Nat → Int) (v_steps : Nat → Int) (v_told_length : Int) (v_told_rules : Nat → Int) (v_p1_objects : Int) (v_p1_pairs : Int) (v_p1_has_lengths : Nat → Int) (v_p1_has_words : Nat → Int64) (v_p1_numbers : Nat → Int) (p2 : Int) (p3 : Int) : Option (Int × (Nat → Int) × (Nat → Int) × Int) :=
  (fX4_clear v_spare_length v_spare_inside v_spare_list).bind fun z1 => (fX1_has v_p1_objects v_p1_pairs).bind fun z2 => (fX8_addOwning v_told_length v_told_rules v_p1_has_lengths v_p1_has_words z1.2 z1.1 v_spare_list p2).bind fun z3 => (fX8_leastStep_L1 v_reached_length v_reached_inside v_steps v_p1_objects v_p1_pairs v_p1_numbers p3 z3 tl_N (0 : Int) (-1 : Int)).bind fun x5 => some (x5, z3.1, z3.2.1, z3.2.2)
def fX8_findWay_L1 (v_told_length : Int) (v_told_rules : Nat → Int) (v_p1_objects : Int) (v_p1_pairs : Int) (v_p1_has_lengths : Nat → Int) (v_p1_has_words : Nat → Int64) (v_p1_numbers : Nat → Int) (z2 : (Nat → Int) × (Nat → Int) × (Nat → Int) × Int) : Nat → Int → Int → Int → (Nat → Int) → (Nat → Int) → Int → (Nat → Int) → Option (Int × (Nat → Int) × (Nat → Int) × Int × (Nat → Int))
  | 0, _, _, _, _, _, _, _ => none
  | n + 1, x8, x9, x10, x11, x12, x13, x14 => tl_gd (tl_R x8) (if x8 < 0 then some (x10, x11, x12, x13, x14) else (fX8_leastStep z2.2.2.2 z2.1 x10 x11 x12 z2.2.2.1 v_told_length v_told_rules v_p1_objects v_p1_pairs v_p1_has_lengths v_p1_has_words v_p1_numbers x9 x8).bind fun z15 => (fX1_numberOf v_p1_objects v_p1_pairs v_p1_numbers z15.1).bind fun z16 => (fX6_add x13 x14 z16).bind fun z17 => fX8_findWay_L1 v_told_length v_told_rules v_p1_objects v_p1_pairs v_p1_has_lengths v_p1_has_words v_p1_numbers z2 n (x8 + (-1)) z15.1 z15.2.2.2 z15.2.1 z15.2.2.1 z17.2 z17.1)
def fX8_findWay (v_reached_length : Int) (v_reached_inside : Nat → Int) (v_reached_list : Nat → Int) (v_spare_length : Int) (v_spare_inside : Nat → Int) (v_spare_list : Nat → Int) (v_steps : Nat → Int) (v_told_length : Int) (v_told_rules : Nat → Int) (v_p1_objects : Int) (v_p1_pairs : Int) (v_p1_had_lengths : Nat → Int) (v_p1_had_words : Nat → Int64) (v_p1_has_lengths : Nat → Int) (v_p1_has_words : Nat → Int64) (v_p1_numbers : Nat → Int) (v_p4_length : Int) (v_p4_numbers : Nat → Int) (p2 : Int) (p3 : Int) : Option (Int × (Nat → Int) × (Nat → Int) × (Nat → Int) × (Nat → Int) × (Nat → Int) × (Nat → Int) × Int × Int × Int) :=
  (fX1_had v_p1_objects v_p1_pairs).bind fun z1 => (fX8_spread v_reached_length v_reached_inside v_reached_list v_steps v_told_length v_told_rules v_p1_had_lengths v_p1_had_words p3).bind fun z2 => (fX4_holds z2.2.2.2 z2.1 p2).bind fun z3 => tl_gd (tl_R z3) (if z3 = 0 then some ((0 : Int), v_p4_numbers, z2.1, z2.2.1, v_spare_inside, v_spare_list, z2.2.2.1, v_p4_length, z2.2.2.2, v_spare_length) else (fX6_clear v_p4_length).bind fun z4 => (fX1_numberOf v_p1_objects v_p1_pairs v_p1_numbers p2).bind fun z5 => (fX6_add z4 v_p4_numbers z5).bind fun z6 => (fX8_stepsTo z2.2.2.2 z2.1 z2.2.2.1 p2).bind fun z7 => (fX8_findWay_L1 v_told_length v_told_rules v_p1_objects v_p1_pairs v_p1_has_lengths v_p1_has_words v_p1_numbers z2 tl_N (z7 - (1 : Int)) p2 v_spare_length v_spare_inside v_spare_list z6.2 z6.1).bind fun z18 => match z18 with | (x10, x11, x12, x13, x14) => some ((1 : Int), x14, z2.1, z2.2.1, x11, x12, z2.2.2.1, x13, z2.2.2.2, x10))
def fX2_areOwnersGone_L1 (v_gone_length : Int) (v_gone_inside : Nat → Int) (v_owners_length : Int) (v_owners_list : Nat → Int) : Nat → Int → Option ((Unit) ⊕ (Int))
  | 0, _ => none
  | n + 1, x1 => (fX4_length v_owners_length).bind fun z2 => tl_gd (tl_R x1 ∧ tl_R z2) (if x1 < z2 then (fX4_get v_owners_length v_owners_list x1).bind fun z3 => (fX4_holds v_gone_length v_gone_inside z3).bind fun z4 => tl_gd (tl_R z4) (if z4 = 0 then some (.inr (0 : Int)) else fX2_areOwnersGone_L1 v_gone_length v_gone_inside v_owners_length v_owners_list n (x1 + 1)) else some (.inl ()))
def fX2_areOwnersGone (v_gone_length : Int) (v_gone_inside : Nat → Int) (v_owners_length : Int) (v_owners_list : Nat → Int) : Option (Int) :=
  (fX2_areOwnersGone_L1 v_gone_length v_gone_inside v_owners_length v_owners_list tl_N (0 : Int)).bind fun o => match o with | .inl _ => some (1 : Int) | .inr r => some r
def fX2_addThoseWithoutOwner_L1 (v_parts_length : Int) (v_parts_list : Nat → Int) (v_told_length : Int) (v_told_rules : Nat → Int) (v_p1_objects : Int) (v_p1_pairs : Int) (v_p1_had_lengths : Nat → Int) (v_p1_had_words : Nat → Int64) : Nat → Int → Int → (Nat → Int) → (Nat → Int) → Int → (Nat → Int) → (Nat → Int) → Option (Int × (Nat → Int) × (Nat → Int) × Int × (Nat → Int) × (Nat → Int))
  | 0, _, _, _, _, _, _, _ => none
  | n + 1, x1, x2, x3, x4, x5, x6, x7 => (fX4_length v_parts_length).bind fun z8 => tl_gd (tl_R x1 ∧ tl_R z8) (if x1 < z8 then (fX4_clear x5 x6 x7).bind fun z9 => (fX1_had v_p1_objects v_p1_pairs).bind fun z10 => (fX4_get v_parts_length v_parts_list x1).bind fun z11 => (fX8_addOwning v_told_length v_told_rules v_p1_had_lengths v_p1_had_words z9.2 z9.1 x7 z11).bind fun z12 => (fX2_areOwnersGone x2 x3 z12.2.2 z12.2.1).bind fun z13 => tl_gd (tl_R z13) (if z13 = 0 then fX2_addThoseWithoutOwner_L1 v_parts_length v_parts_list v_told_length v_told_rules v_p1_objects v_p1_pairs v_p1_had_lengths v_p1_had_words n (x1 + 1) x2 x3 x4 z12.2.2 z12.1 z12.2.1 else (fX4_get v_parts_length v_parts_list x1).bind fun z14 => (fX4_add x2 x3 x4 z14).bind fun z15 => fX2_addThoseWithoutOwner_L1 v_parts_length v_parts_list v_told_length v_told_rules v_p1_objects v_p1_pairs v_p1_had_lengths v_p1_had_words n (x1 + 1) z15.2.2 z15.1 z15.2.1 z12.2.2 z12.1 z12.2.1) else some (x2, x3, x4, x5, x6, x7))
def fX2_addThoseWithoutOwner (v_gone_length : Int) (v_gone_inside : Nat → Int) (v_gone_list : Nat → Int) (v_owners_length : Int) (v_owners_inside : Nat → Int) (v_owners_list : Nat → Int) (v_parts_length : Int) (v_parts_list : Nat → Int) (v_told_length : Int) (v_told_rules : Nat → Int) (v_p1_objects : Int) (v_p1_pairs : Int) (v_p1_had_lengths : Nat → Int) (v_p1_had_words : Nat → Int64) : Option ((Nat → Int) × (Nat → Int) × (Nat → Int) × (Nat → Int) × Int × Int) :=
  (fX2_addThoseWithoutOwner_L1 v_parts_length v_parts_list v_told_length v_told_rules v_p1_objects v_p1_pairs v_p1_had_lengths v_p1_had_words tl_N (0 : Int) v_gone_length v_gone_inside v_gone_list v_owners_length v_owners_inside v_owners_list).bind fun z16 => match z16 with | (x2, x3, x4, x5, x6, x7) => some (x3, x4, x6, x7, x2, x5)
def fX2_gather_L1 (v_told_length : Int) (v_told_rules : Nat → Int) (v_p1_objects : Int) (v_p1_pairs : Int) (v_p1_had_lengths : Nat → Int) (v_p1_had_words : Nat → Int64) (v_p1_has_lengths : Nat → Int) (v_p1_has_words : Nat → Int64) : Nat → Int → Int → (Nat → Int) → (Nat → Int) → Int → (Nat → Int) → (Nat → Int) → Int → (Nat → Int) → (Nat → Int) → Option (Int × (Nat → Int) × (Nat → Int) × Int × (Nat → Int) × (Nat → Int) × Int × (Nat → Int) × (Nat → Int))
  | 0, _, _, _, _, _, _, _, _, _, _ => none
  | n + 1, x3, x4, x5, x6, x7, x8, x9, x10, x11, x12 => (fX4_length x4).bind fun z13 => tl_gd (tl_R x3 ∧ tl_R z13) (if x3 < z13 then tl_gd (tl_R x3 ∧ tl_R (100 : Int)) (if x3 < (100 : Int) then (fX4_clear x10 x11 x12).bind fun z14 => (fX1_has v_p1_objects v_p1_pairs).bind fun z15 => (fX4_get x4 x6 x3).bind fun z16 => (fX8_addOwning v_told_length v_told_rules v_p1_has_lengths v_p1_has_words z14.2 z14.1 x12 z16).bind fun z17 => (fX2_addThoseWithoutOwner x4 x5 x6 x7 x8 x9 z17.2.2 z17.2.1 v_told_length v_told_rules v_p1_objects v_p1_pairs v_p1_had_lengths v_p1_had_words).bind fun z18 => fX2_gather_L1 v_told_length v_told_rules v_p1_objects v_p1_pairs v_p1_had_lengths v_p1_had_words v_p1_has_lengths v_p1_has_words n (x3 + 1) z18.2.2.2.2.1 z18.1 z18.2.1 z18.2.2.2.2.2 z18.2.2.1 z18.2.2.2.1 z17.2.2 z17.1 z17.2.1 else some (x4, x5, x6, x7, x8, x9, x10, x11, x12)) else some (x4, x5, x6, x7, x8, x9, x10, x11, x12))
def fX2_gather (v_gone_length : Int) (v_gone_inside : Nat → Int) (v_gone_list : Nat → Int) (v_owners_length : Int) (v_owners_inside : Nat → Int) (v_owners_list : Nat → Int) (v_parts_length : Int) (v_parts_inside : Nat → Int) (v_parts_list : Nat → Int) (v_told_length : Int) (v_told_rules : Nat → Int) (v_p1_objects : Int) (v_p1_pairs : Int) (v_p1_had_lengths : Nat → Int) (v_p1_had_words : Nat → Int64) (v_p1_has_lengths : Nat → Int) (v_p1_has_words : Nat → Int64) (p2 : Int) : Option ((Nat → Int) × (Nat → Int) × (Nat → Int) × (Nat → Int) × (Nat → Int) × (Nat → Int) × Int × Int × Int) :=
  (fX4_clear v_gone_length v_gone_inside v_gone_list).bind fun z1 => (fX4_add z1.2 z1.1 v_gone_list p2).bind fun z2 => (fX2_gather_L1 v_told_length v_told_rules v_p1_objects v_p1_pairs v_p1_had_lengths v_p1_had_words v_p1_has_lengths v_p1_has_words tl_N (0 : Int) z2.2.2 z2.1 z2.2.1 v_owners_length v_owners_inside v_owners_list v_parts_length v_parts_inside v_parts_list).bind fun z19 => match z19 with | (x4, x5, x6, x7, x8, x9, x10, x11, x12) => some (x5, x6, x8, x9, x11, x12, x4, x7, x10)
def fX2_leastBar_L2 (v_gone_length : Int) (v_gone_inside : Nat → Int) (v_p1_objects : Int) (v_p1_pairs : Int) (v_p1_has_lengths : Nat → Int) (v_p1_has_words : Nat → Int64) (v_p1_numbers : Nat → Int) (p2 : Int) (x1 : Int) (j5 : Int) : Nat → Int → Int → Option (Int)
  | 0, _, _ => none
  | n + 1, x9, x10 => tl_gd (tl_R x9 ∧ tl_R j5) (if x9 < j5 then (fX1_has v_p1_objects v_p1_pairs).bind fun z11 => (fX3_get v_p1_has_lengths v_p1_has_words x1 p2 x9).bind fun z12 => (fX4_holds v_gone_length v_gone_inside z12).bind fun z13 => (tl_gd (tl_R z13) (if z13 = 0 then some (1 : Int) else some (0 : Int)) : Option (Int)).bind (fun (z15 : Int) => tl_gd (tl_R z15) (if z15 = 0 then fX2_leastBar_L2 v_gone_length v_gone_inside v_p1_objects v_p1_pairs v_p1_has_lengths v_p1_has_words v_p1_numbers p2 x1 j5 n (x9 + 1) x10 else tl_gd (tl_R x10 ∧ tl_R (-1 : Int)) (if x10 = (-1 : Int) then fX2_leastBar_L2 v_gone_length v_gone_inside v_p1_objects v_p1_pairs v_p1_has_lengths v_p1_has_words v_p1_numbers p2 x1 j5 n (x9 + 1) z12 else (fX1_numberOf v_p1_objects v_p1_pairs v_p1_numbers z12).bind fun z16 => (fX1_numberOf v_p1_objects v_p1_pairs v_p1_numbers x10).bind fun z17 => tl_gd (tl_R z16 ∧ tl_R z17) (if z16 < z17 then fX2_leastBar_L2 v_gone_length v_gone_inside v_p1_objects v_p1_pairs v_p1_has_lengths v_p1_has_words v_p1_numbers p2 x1 j5 n (x9 + 1) z12 else fX2_leastBar_L2 v_gone_length v_gone_inside v_p1_objects v_p1_pairs v_p1_has_lengths v_p1_has_words v_p1_numbers p2 x1 j5 n (x9 + 1) x10)))) else some x10)
def fX2_leastBar_L1 (v_gone_length : Int) (v_gone_inside : Nat → Int) (v_told_length : Int) (v_told_rules : Nat → Int) (v_p1_objects : Int) (v_p1_pairs : Int) (v_p1_has_lengths : Nat → Int) (v_p1_has_words : Nat → Int64) (v_p1_numbers : Nat → Int) (p2 : Int) : Nat → Int → Int → Option (Int)
  | 0, _, _ => none
  | n + 1, x1, x2 => (fX5_howMany v_told_length).bind fun z3 => tl_gd (tl_R x1 ∧ tl_R z3) (if x1 < z3 then (fX5_hasRule v_told_length v_told_rules x1 (2 : Int)).bind fun z4 => (tl_gd (tl_R z4) (if z4 = 0 then some (0 : Int) else (fX1_has v_p1_objects v_p1_pairs).bind fun z6 => (fX3_lengthOf v_p1_has_lengths x1 p2).bind fun z7 => some z7) : Option (Int)).bind (fun (z8 : Int) => (fX2_leastBar_L2 v_gone_length v_gone_inside v_p1_objects v_p1_pairs v_p1_has_lengths v_p1_has_words v_p1_numbers p2 x1 z8 tl_N (0 : Int) x2).bind fun x10 => fX2_leastBar_L1 v_gone_length v_gone_inside v_told_length v_told_rules v_p1_objects v_p1_pairs v_p1_has_lengths v_p1_has_words v_p1_numbers p2 n (x1 + 1) x10) else some x2)
def fX2_leastBar (v_gone_length : Int) (v_gone_inside : Nat → Int) (v_told_length : Int) (v_told_rules : Nat → Int) (v_p1_objects : Int) (v_p1_pairs : Int) (v_p1_has_lengths : Nat → Int) (v_p1_has_words : Nat → Int64) (v_p1_numbers : Nat → Int) (p2 : Int) : Option (Int) :=
  (fX2_leastBar_L1 v_gone_length v_gone_inside v_told_length v_told_rules v_p1_objects v_p1_pairs v_p1_has_lengths v_p1_has_words v_p1_numbers p2 tl_N (0 : Int) (-1 : Int)).bind fun x2 => some x2
def fX2_isBefore (v_walk_reached_length : Int) (v_walk_reached_inside : Nat → Int) (v_walk_steps : Nat → Int) (v_p1_objects : Int) (v_p1_pairs : Int) (v_p1_numbers : Nat → Int) (p2 : Int) (p3 : Int) : Option (Int) :=
  (fX8_stepsTo v_walk_reached_length v_walk_reached_inside v_walk_steps p2).bind fun z1 => (fX8_stepsTo v_walk_reached_length v_walk_reached_inside v_walk_steps p3).bind fun z2 => tl_gd (tl_R z1 ∧ tl_R z2) (if z1 < z2 then some (1 : Int) else tl_gd (tl_R z1 ∧ tl_R z2) (if z1 = z2 then (fX1_numberOf v_p1_objects v_p1_pairs v_p1_numbers p2).bind fun z3 => (fX1_numberOf v_p1_objects v_p1_pairs v_p1_numbers p3).bind fun z4 => tl_gd (tl_R z3 ∧ tl_R z4) (if z3 < z4 then some (1 : Int) else some (0 : Int)) else some (0 : Int)))
def fX2_firstBarred_L1 (v_gone_length : Int) (v_gone_inside : Nat → Int) (v_told_length : Int) (v_told_rules : Nat → Int) (v_p1_objects : Int) (v_p1_pairs : Int) (v_p1_has_lengths : Nat → Int) (v_p1_has_words : Nat → Int64) (v_p1_numbers : Nat → Int) (z2 : (Nat → Int) × (Nat → Int) × (Nat → Int) × Int) : Nat → Int → Int → Option (Int)
  | 0, _, _ => none
  | n + 1, x3, x4 => (fX4_length z2.2.2.2).bind fun z5 => tl_gd (tl_R x3 ∧ tl_R z5) (if x3 < z5 then (fX4_get z2.2.2.2 z2.2.1 x3).bind fun z6 => (fX4_holds v_gone_length v_gone_inside z6).bind fun z7 => (tl_gd (tl_R z7) (if z7 = 0 then some (0 : Int) else (fX2_leastBar v_gone_length v_gone_inside v_told_length v_told_rules v_p1_objects v_p1_pairs v_p1_has_lengths v_p1_has_words v_p1_numbers z6).bind fun z9 => tl_gd (tl_R z9 ∧ tl_R (-1 : Int)) (if z9 = (-1 : Int) then some (0 : Int) else some (1 : Int))) : Option (Int)).bind (fun (z10 : Int) => tl_gd (tl_R z10) (if z10 = 0 then fX2_firstBarred_L1 v_gone_length v_gone_inside v_told_length v_told_rules v_p1_objects v_p1_pairs v_p1_has_lengths v_p1_has_words v_p1_numbers z2 n (x3 + 1) x4 else tl_gd (tl_R x4 ∧ tl_R (-1 : Int)) (if x4 = (-1 : Int) then fX2_firstBarred_L1 v_gone_length v_gone_inside v_told_length v_told_rules v_p1_objects v_p1_pairs v_p1_has_lengths v_p1_has_words v_p1_numbers z2 n (x3 + 1) z6 else (fX2_isBefore z2.2.2.2 z2.1 z2.2.2.1 v_p1_objects v_p1_pairs v_p1_numbers z6 x4).bind fun z11 => tl_gd (tl_R z11) (if z11 = 0 then fX2_firstBarred_L1 v_gone_length v_gone_inside v_told_length v_told_rules v_p1_objects v_p1_pairs v_p1_has_lengths v_p1_has_words v_p1_numbers z2 n (x3 + 1) x4 else fX2_firstBarred_L1 v_gone_length v_gone_inside v_told_length v_told_rules v_p1_objects v_p1_pairs v_p1_has_lengths v_p1_has_words v_p1_numbers z2 n (x3 + 1) z6)))) else some x4)
def fX2_firstBarred (v_gone_length : Int) (v_gone_inside : Nat → Int) (v_told_length : Int) (v_told_rules : Nat → Int) (v_walk_reached_length : Int) (v_walk_reached_inside : Nat → Int) (v_walk_reached_list : Nat → Int) (v_walk_steps : Nat → Int) (v_p1_objects : Int) (v_p1_pairs : Int) (v_p1_has_lengths : Nat → Int) (v_p1_has_words : Nat → Int64) (v_p1_numbers : Nat → Int) (p2 : Int) : Option (Int × (Nat → Int) × (Nat → Int) × (Nat → Int) × Int) :=
  (fX1_has v_p1_objects v_p1_pairs).bind fun z1 => (fX8_spread v_walk_reached_length v_walk_reached_inside v_walk_reached_list v_walk_steps v_told_length v_told_rules v_p1_has_lengths v_p1_has_words p2).bind fun z2 => (fX2_firstBarred_L1 v_gone_length v_gone_inside v_told_length v_told_rules v_p1_objects v_p1_pairs v_p1_has_lengths v_p1_has_words v_p1_numbers z2 tl_N (0 : Int) (-1 : Int)).bind fun x4 => some (x4, z2.1, z2.2.1, z2.2.2.1, z2.2.2.2)
def fX2_removeAll_L1 (v_gone_length : Int) (v_gone_list : Nat → Int) : Nat → Int → Int → Int → (Nat → Int) → (Nat → Int64) → (Nat → Int) → (Nat → Int64) → (Nat → Int) → Option (Int × Int × (Nat → Int) × (Nat → Int64) × (Nat → Int) × (Nat → Int64) × (Nat → Int))
  | 0, _, _, _, _, _, _, _, _ => none
  | n + 1, x1, x2, x3, x4, x5, x6, x7, x8 => (fX4_length v_gone_length).bind fun z9 => tl_gd (tl_R x1 ∧ tl_R z9) (if x1 < z9 then (fX4_get v_gone_length v_gone_list x1).bind fun z10 => (fX1_remove x2 x3 x4 x5 x6 x7 x8 z10).bind fun z11 => fX2_removeAll_L1 v_gone_length v_gone_list n (x1 + 1) z11.2.2.2.2.2.1 z11.2.2.2.2.2.2 z11.1 z11.2.1 z11.2.2.1 z11.2.2.2.1 z11.2.2.2.2.1 else some (x2, x3, x4, x5, x6, x7, x8))
def fX2_removeAll (v_gone_length : Int) (v_gone_list : Nat → Int) (v_p1_objects : Int) (v_p1_pairs : Int) (v_p1_had_lengths : Nat → Int) (v_p1_had_words : Nat → Int64) (v_p1_has_lengths : Nat → Int) (v_p1_has_words : Nat → Int64) (v_p1_numbers : Nat → Int) : Option (Int × (Nat → Int) × (Nat → Int64) × (Nat → Int) × (Nat → Int64) × (Nat → Int) × Int × Int) :=
  (fX2_removeAll_L1 v_gone_length v_gone_list tl_N (0 : Int) v_p1_objects v_p1_pairs v_p1_had_lengths v_p1_had_words v_p1_has_lengths v_p1_has_words v_p1_numbers).bind fun z12 => match z12 with | (x2, x3, x4, x5, x6, x7, x8) => (fX4_length v_gone_length).bind fun z13 => some (z13, x4, x5, x6, x7, x8, x2, x3)
def fX7_leastMissing_L1 (v_old_length : Int) (v_old_inside : Nat → Int) (v_p1_objects : Int) (v_p1_pairs : Int) (v_p1_numbers : Nat → Int) (v_p2_length : Int) (v_p2_list : Nat → Int) : Nat → Int → Int → Option (Int)
  | 0, _, _ => none
  | n + 1, x1, x2 => (fX4_length v_p2_length).bind fun z3 => tl_gd (tl_R x1 ∧ tl_R z3) (if x1 < z3 then (fX4_get v_p2_length v_p2_list x1).bind fun z4 => (fX4_holds v_old_length v_old_inside z4).bind fun z5 => (tl_gd (tl_R z5) (if z5 = 0 then some (1 : Int) else some (0 : Int)) : Option (Int)).bind (fun (z7 : Int) => tl_gd (tl_R z7) (if z7 = 0 then fX7_leastMissing_L1 v_old_length v_old_inside v_p1_objects v_p1_pairs v_p1_numbers v_p2_length v_p2_list n (x1 + 1) x2 else tl_gd (tl_R x2 ∧ tl_R (-1 : Int)) (if x2 = (-1 : Int) then fX7_leastMissing_L1 v_old_length v_old_inside v_p1_objects v_p1_pairs v_p1_numbers v_p2_length v_p2_list n (x1 + 1) z4 else (fX1_numberOf v_p1_objects v_p1_pairs v_p1_numbers z4).bind fun z8 => (fX1_numberOf v_p1_objects v_p1_pairs v_p1_numbers x2).bind fun z9 => tl_gd (tl_R z8 ∧ tl_R z9) (if z8 < z9 then fX7_leastMissing_L1 v_old_length v_old_inside v_p1_objects v_p1_pairs v_p1_numbers v_p2_length v_p2_list n (x1 + 1) z4 else fX7_leastMissing_L1 v_old_length v_old_inside v_p1_objects v_p1_pairs v_p1_numbers v_p2_length v_p2_list n (x1 + 1) x2)))) else some x2)
def fX7_leastMissing (v_old_length : Int) (v_old_inside : Nat → Int) (v_p1_objects : Int) (v_p1_pairs : Int) (v_p1_numbers : Nat → Int) (v_p2_length : Int) (v_p2_list : Nat → Int) : Option (Int) :=
  (fX7_leastMissing_L1 v_old_length v_old_inside v_p1_objects v_p1_pairs v_p1_numbers v_p2_length v_p2_list tl_N (0 : Int) (-1 : Int)).bind fun x2 => some x2
def fX7_gather_L1 (v_p1_objects : Int) (v_p1_pairs : Int) (v_p1_numbers : Nat → Int) (z2 : (Nat → Int) × (Nat → Int) × (Nat → Int) × Int) : Nat → Int → Int → (Nat → Int) → (Nat → Int) → Option (Int × (Nat → Int) × (Nat → Int))
  | 0, _, _, _, _ => none
  | n + 1, x4, x5, x6, x7 => (fX4_length z2.2.2.2).bind fun z8 => tl_gd (tl_R x4 ∧ tl_R z8) (if x4 < z8 then (fX7_leastMissing x5 x6 v_p1_objects v_p1_pairs v_p1_numbers z2.2.2.2 z2.2.1).bind fun z9 => (fX4_add x5 x6 x7 z9).bind fun z10 => fX7_gather_L1 v_p1_objects v_p1_pairs v_p1_numbers z2 n (x4 + 1) z10.2.2 z10.1 z10.2.1 else some (x5, x6, x7))
def fX7_gather (v_old_length : Int) (v_old_inside : Nat → Int) (v_old_list : Nat → Int) (v_told_length : Int) (v_told_rules : Nat → Int) (v_walk_reached_length : Int) (v_walk_reached_inside : Nat → Int) (v_walk_reached_list : Nat → Int) (v_walk_steps : Nat → Int) (v_p1_objects : Int) (v_p1_pairs : Int) (v_p1_has_lengths : Nat → Int) (v_p1_has_words : Nat → Int64) (v_p1_numbers : Nat → Int) (p2 : Int) : Option ((Nat → Int) × (Nat → Int) × (Nat → Int) × (Nat → Int) × (Nat → Int) × Int × Int) :=
  (fX1_has v_p1_objects v_p1_pairs).bind fun z1 => (fX8_spread v_walk_reached_length v_walk_reached_inside v_walk_reached_list v_walk_steps v_told_length v_told_rules v_p1_has_lengths v_p1_has_words p2).bind fun z2 => (fX4_clear v_old_length v_old_inside v_old_list).bind fun z3 => (fX7_gather_L1 v_p1_objects v_p1_pairs v_p1_numbers z2 tl_N (0 : Int) z3.2 z3.1 v_old_list).bind fun z11 => match z11 with | (x5, x6, x7) => some (x6, x7, z2.1, z2.2.1, z2.2.2.1, x5, z2.2.2.2)
def fX7_keepsOutsiders (v_told_length : Int) (v_told_forms : Nat → Int) (v_told_rules : Nat → Int) (p1 : Int) : Option (Int) :=
  (fX5_hasForm v_told_length v_told_forms p1 (2 : Int)).bind fun z1 => tl_gd (tl_R z1) (if z1 = 0 then some (0 : Int) else (fX5_hasRule v_told_length v_told_rules p1 (1 : Int)).bind fun z2 => tl_gd (tl_R z2) (if z2 = 0 then some (1 : Int) else some (0 : Int)))
def fX7_howManyOldHave_L1 (v_old_length : Int) (v_old_inside : Nat → Int) (v_p1_objects : Int) (v_p1_pairs : Int) (v_p1_had_lengths : Nat → Int) (v_p1_had_words : Nat → Int64) (p2 : Int) (p3 : Int) : Nat → Int → Int → Option (Int)
  | 0, _, _ => none
  | n + 1, x1, x2 => (fX1_had v_p1_objects v_p1_pairs).bind fun z3 => (fX3_lengthOf v_p1_had_lengths p2 p3).bind fun z4 => tl_gd (tl_R x1 ∧ tl_R z4) (if x1 < z4 then (fX1_had v_p1_objects v_p1_pairs).bind fun z5 => (fX3_get v_p1_had_lengths v_p1_had_words p2 p3 x1).bind fun z6 => (fX4_holds v_old_length v_old_inside z6).bind fun z7 => tl_gd (tl_R z7) (if z7 = 0 then fX7_howManyOldHave_L1 v_old_length v_old_inside v_p1_objects v_p1_pairs v_p1_had_lengths v_p1_had_words p2 p3 n (x1 + 1) x2 else fX7_howManyOldHave_L1 v_old_length v_old_inside v_p1_objects v_p1_pairs v_p1_had_lengths v_p1_had_words p2 p3 n (x1 + 1) (x2 + 1)) else some x2)
def fX7_howManyOldHave (v_old_length : Int) (v_old_inside : Nat → Int) (v_p1_objects : Int) (v_p1_pairs : Int) (v_p1_had_lengths : Nat → Int) (v_p1_had_words : Nat → Int64) (p2 : Int) (p3 : Int) : Option (Int) :=
  (fX7_howManyOldHave_L1 v_old_length v_old_inside v_p1_objects v_p1_pairs v_p1_had_lengths v_p1_had_words p2 p3 tl_N (0 : Int) (0 : Int)).bind fun x2 => some x2
def fX7_twinOf (v_old_length : Int) (v_old_inside : Nat → Int) (v_twins : Nat → Int) (p1 : Int) : Option (Int) :=
  (fX4_holds v_old_length v_old_inside p1).bind fun z1 => tl_gd (tl_R z1) (if z1 = 0 then some (-1 : Int) else tl_gd (tl_in p1 100) (some (v_twins p1.toNat)))
def fX7_standIn (v_old_length : Int) (v_old_inside : Nat → Int) (v_told_length : Int) (v_told_forms : Nat → Int) (v_told_rules : Nat → Int) (v_twins : Nat → Int) (p1 : Int) (p2 : Int) : Option (Int) :=
  (fX4_holds v_old_length v_old_inside p2).bind fun z1 => tl_gd (tl_R z1) (if z1 = 0 then (fX7_keepsOutsiders v_told_length v_told_forms v_told_rules p1).bind fun z2 => tl_gd (tl_R z2) (if z2 = 0 then some (-1 : Int) else some p2) else (fX7_twinOf v_old_length v_old_inside v_twins p2).bind fun z3 => some z3)
def fX7_copyHas_L1 (v_old_length : Int) (v_old_inside : Nat → Int) (v_told_length : Int) (v_told_forms : Nat → Int) (v_told_rules : Nat → Int) (v_twins : Nat → Int) (v_p1_objects : Int) (p2 : Int) (p3 : Int) (z2 : Int) : Nat → Int → Int → (Nat → Int) → (Nat → Int64) → Option (Int × (Nat → Int) × (Nat → Int64))
  | 0, _, _, _, _ => none
  | n + 1, x3, x4, x5, x6 => tl_gd (tl_R x3 ∧ tl_R z2) (if x3 < z2 then (fX1_has v_p1_objects x4).bind fun z7 => (fX3_get x5 x6 p2 p3 x3).bind fun z8 => (fX7_standIn v_old_length v_old_inside v_told_length v_told_forms v_told_rules v_twins p2 z8).bind fun z9 => tl_gd (tl_R z9 ∧ tl_R (-1 : Int)) (if z9 = (-1 : Int) then fX7_copyHas_L1 v_old_length v_old_inside v_told_length v_told_forms v_told_rules v_twins v_p1_objects p2 p3 z2 n (x3 + 1) x4 x5 x6 else (fX7_twinOf v_old_length v_old_inside v_twins p3).bind fun z10 => (fX1_joinHas v_p1_objects x4 x5 x6 p2 z10 z9).bind fun z11 => fX7_copyHas_L1 v_old_length v_old_inside v_told_length v_told_forms v_told_rules v_twins v_p1_objects p2 p3 z2 n (x3 + 1) z11.2.2 z11.1 z11.2.1) else some (x4, x5, x6))
def fX7_copyHas (v_old_length : Int) (v_old_inside : Nat → Int) (v_told_length : Int) (v_told_forms : Nat → Int) (v_told_rules : Nat → Int) (v_twins : Nat → Int) (v_p1_objects : Int) (v_p1_pairs : Int) (v_p1_has_lengths : Nat → Int) (v_p1_has_words : Nat → Int64) (p2 : Int) (p3 : Int) : Option ((Nat → Int) × (Nat → Int64) × Int) :=
  (fX1_has v_p1_objects v_p1_pairs).bind fun z1 => (fX3_lengthOf v_p1_has_lengths p2 p3).bind fun z2 => (fX7_copyHas_L1 v_old_length v_old_inside v_told_length v_told_forms v_told_rules v_twins v_p1_objects p2 p3 z2 tl_N (0 : Int) v_p1_pairs v_p1_has_lengths v_p1_has_words).bind fun z12 => match z12 with | (x4, x5, x6) => some (x5, x6, x4)
def fX7_copyHad_L1 (v_old_length : Int) (v_old_inside : Nat → Int) (v_twins : Nat → Int) (v_p1_objects : Int) (v_p1_pairs : Int) (p2 : Int) (p3 : Int) (z1 : Int) (j2 : Int) : Nat → Int → (Nat → Int) → (Nat → Int64) → Option ((Nat → Int) × (Nat → Int64))
  | 0, _, _, _ => none
  | n + 1, x6, x7, x8 => tl_gd (tl_R x6 ∧ tl_R j2) (if x6 < j2 then (fX1_had v_p1_objects v_p1_pairs).bind fun z9 => (fX3_get x7 x8 p2 p3 x6).bind fun z10 => (fX4_holds v_old_length v_old_inside z10).bind fun z11 => tl_gd (tl_R z11) (if z11 = 0 then fX7_copyHad_L1 v_old_length v_old_inside v_twins v_p1_objects v_p1_pairs p2 p3 z1 j2 n (x6 + 1) x7 x8 else (fX7_twinOf v_old_length v_old_inside v_twins z10).bind fun z12 => (fX1_joinHad v_p1_objects v_p1_pairs x7 x8 p2 z12 z1).bind fun z13 => fX7_copyHad_L1 v_old_length v_old_inside v_twins v_p1_objects v_p1_pairs p2 p3 z1 j2 n (x6 + 1) z13.1 z13.2) else some (x7, x8))
def fX7_copyHad (v_old_length : Int) (v_old_inside : Nat → Int) (v_told_length : Int) (v_told_forms : Nat → Int) (v_told_rules : Nat → Int) (v_twins : Nat → Int) (v_p1_objects : Int) (v_p1_pairs : Int) (v_p1_had_lengths : Nat → Int) (v_p1_had_words : Nat → Int64) (p2 : Int) (p3 : Int) : Option ((Nat → Int) × (Nat → Int64)) :=
  (fX7_standIn v_old_length v_old_inside v_told_length v_told_forms v_told_rules v_twins p2 p3).bind fun z1 => (tl_gd (tl_R z1 ∧ tl_R (-1 : Int)) (if z1 = (-1 : Int) then some (0 : Int) else (fX1_had v_p1_objects v_p1_pairs).bind fun z3 => (fX3_lengthOf v_p1_had_lengths p2 p3).bind fun z4 => some z4) : Option (Int)).bind (fun (z5 : Int) => (fX7_copyHad_L1 v_old_length v_old_inside v_twins v_p1_objects v_p1_pairs p2 p3 z1 z5 tl_N (0 : Int) v_p1_had_lengths v_p1_had_words).bind fun z14 => match z14 with | (x7, x8) => some (x7, x8))
def fX7_build_L1 (v_old_length : Int) (v_old_list : Nat → Int) (v_p1_pairs : Int) (p2 : Int) : Nat → Int → (Nat → Int) → Int → (Nat → Int) → (Nat → Int) → Option ((Nat → Int) × Int × (Nat → Int) × (Nat → Int))
  | 0, _, _, _, _, _ => none
  | n + 1, x1, x2, x3, x4, x5 => (fX4_length v_old_length).bind fun z6 => tl_gd (tl_R x1 ∧ tl_R z6) (if x1 < z6 then (fX4_get v_old_length v_old_list x1).bind fun z7 => (fX4_isSlot z7).bind fun z8 => tl_gd (tl_R z8) (if z8 = 0 then fX7_build_L1 v_old_length v_old_list v_p1_pairs p2 n (x1 + 1) x2 x3 x4 x5 else (fX1_kindOf x3 v_p1_pairs x4 z7).bind fun z9 => (fX1_admit x3 v_p1_pairs x4 x5 (p2 + x1) z9).bind fun z10 => tl_gd (tl_in z7 100) (fX7_build_L1 v_old_length v_old_list v_p1_pairs p2 n (x1 + 1) (va_up x2 z7.toNat z10.1) z10.2.2.2 z10.2.1 z10.2.2.1)) else some (x2, x3, x4, x5))
def fX7_build_L3 (v_old_length : Int) (v_old_inside : Nat → Int) (v_old_list : Nat → Int) (v_told_length : Int) (v_told_forms : Nat → Int) (v_told_rules : Nat → Int) (x2 : Nat → Int) (x3 : Int) (x12 : Int) : Nat → Int → Int → (Nat → Int) → (Nat → Int64) → Option (Int × (Nat → Int) × (Nat → Int64))
  | 0, _, _, _, _ => none
  | n + 1, x19, x20, x21, x22 => (fX4_length v_old_length).bind fun z23 => tl_gd (tl_R x19 ∧ tl_R z23) (if x19 < z23 then (fX4_get v_old_length v_old_list x19).bind fun z24 => (fX7_copyHas v_old_length v_old_inside v_told_length v_told_forms v_told_rules x2 x3 x20 x21 x22 x12 z24).bind fun z25 => fX7_build_L3 v_old_length v_old_inside v_old_list v_told_length v_told_forms v_told_rules x2 x3 x12 n (x19 + 1) z25.2.2 z25.1 z25.2.1 else some (x20, x21, x22))
def fX7_build_L4 (v_old_length : Int) (v_old_inside : Nat → Int) (v_told_length : Int) (v_told_forms : Nat → Int) (v_told_rules : Nat → Int) (x2 : Nat → Int) (x3 : Int) (x12 : Int) (x20 : Int) : Nat → Int → (Nat → Int) → (Nat → Int64) → Option ((Nat → Int) × (Nat → Int64))
  | 0, _, _, _ => none
  | n + 1, x27, x28, x29 => tl_gd (tl_R x27 ∧ tl_R (100 : Int)) (if x27 < (100 : Int) then (fX7_copyHad v_old_length v_old_inside v_told_length v_told_forms v_told_rules x2 x3 x20 x28 x29 x12 x27).bind fun z30 => fX7_build_L4 v_old_length v_old_inside v_told_length v_told_forms v_told_rules x2 x3 x12 x20 n (x27 + 1) z30.1 z30.2 else some (x28, x29))
def fX7_build_L2 (v_old_length : Int) (v_old_inside : Nat → Int) (v_old_list : Nat → Int) (v_told_length : Int) (v_told_forms : Nat → Int) (v_told_rules : Nat → Int) (x2 : Nat → Int) (x3 : Int) : Nat → Int → Int → (Nat → Int) → (Nat → Int64) → (Nat → Int) → (Nat → Int64) → Option (Int × (Nat → Int) × (Nat → Int64) × (Nat → Int) × (Nat → Int64))
  | 0, _, _, _, _, _, _ => none
  | n + 1, x12, x13, x14, x15, x16, x17 => (fX5_howMany v_told_length).bind fun z18 => tl_gd (tl_R x12 ∧ tl_R z18) (if x12 < z18 then (fX7_build_L3 v_old_length v_old_inside v_old_list v_told_length v_told_forms v_told_rules x2 x3 x12 tl_N (0 : Int) x13 x16 x17).bind fun z26 => match z26 with | (x20, x21, x22) => (fX7_build_L4 v_old_length v_old_inside v_told_length v_told_forms v_told_rules x2 x3 x12 x20 tl_N (0 : Int) x14 x15).bind fun z31 => match z31 with | (x28, x29) => fX7_build_L2 v_old_length v_old_inside v_old_list v_told_length v_told_forms v_told_rules x2 x3 n (x12 + 1) x20 x28 x29 x21 x22 else some (x13, x14, x15, x16, x17))
def fX7_build (v_old_length : Int) (v_old_inside : Nat → Int) (v_old_list : Nat → Int) (v_told_length : Int) (v_told_forms : Nat → Int) (v_told_rules : Nat → Int) (v_twins : Nat → Int) (v_p1_objects : Int) (v_p1_pairs : Int) (v_p1_had_lengths : Nat → Int) (v_p1_had_words : Nat → Int64) (v_p1_has_lengths : Nat → Int) (v_p1_has_words : Nat → Int64) (v_p1_kinds : Nat → Int) (v_p1_numbers : Nat → Int) (p2 : Int) : Option (Int × (Nat → Int) × (Nat → Int64) × (Nat → Int) × (Nat → Int64) × (Nat → Int) × (Nat → Int) × (Nat → Int) × Int × Int) :=
  (fX7_build_L1 v_old_length v_old_list v_p1_pairs p2 tl_N (0 : Int) v_twins v_p1_objects v_p1_kinds v_p1_numbers).bind fun z11 => match z11 with | (x2, x3, x4, x5) => (fX7_build_L2 v_old_length v_old_inside v_old_list v_told_length v_told_forms v_told_rules x2 x3 tl_N (0 : Int) v_p1_pairs v_p1_had_lengths v_p1_had_words v_p1_has_lengths v_p1_has_words).bind fun z32 => match z32 with | (x13, x14, x15, x16, x17) => (fX4_length v_old_length).bind fun z33 => some (p2 + z33, x14, x15, x16, x17, x4, x5, x2, x3, x13)
def fX0_demand_L1 (v_leaders : Nat → Int) (p1 : Int) (p2 : Int) : Nat → Int → (Nat → Int) → Option (Nat → Int)
  | 0, _, _ => none
  | n + 1, x3, x4 => tl_gd (tl_R x3 ∧ tl_R (100 : Int)) (if x3 < (100 : Int) then tl_gd (tl_in x3 100) (tl_gd (tl_R (x4 x3.toNat) ∧ tl_R (v_leaders p2.toNat)) (if x4 x3.toNat = v_leaders p2.toNat then tl_gd (tl_in p1 100) (tl_gd (tl_in x3 100) (fX0_demand_L1 v_leaders p1 p2 n (x3 + 1) (va_up x4 x3.toNat (x4 p1.toNat)))) else fX0_demand_L1 v_leaders p1 p2 n (x3 + 1) x4)) else some x4)
def fX0_demand (v_this_length : Int) (v_firsts : Nat → Int) (v_leaders : Nat → Int) (v_seconds : Nat → Int) (p1 : Int) (p2 : Int) : Option ((Nat → Int) × (Nat → Int) × (Nat → Int) × Int) :=
  (fX4_isSlot p1).bind fun z1 => tl_gd (tl_R z1) (if z1 = 0 then some (v_firsts, v_leaders, v_seconds, v_this_length) else (fX4_isSlot p2).bind fun z2 => tl_gd (tl_R z2) (if z2 = 0 then some (v_firsts, v_leaders, v_seconds, v_this_length) else tl_gd (tl_in p1 100) (tl_gd (tl_in p2 100) (tl_gd (tl_R (v_leaders p1.toNat) ∧ tl_R (v_leaders p2.toNat)) (if v_leaders p1.toNat = v_leaders p2.toNat then some (v_firsts, v_leaders, v_seconds, v_this_length) else tl_gd (tl_R v_this_length ∧ tl_R (100 : Int)) (if v_this_length < (100 : Int) then tl_gd (tl_in v_this_length 100) (tl_gd (tl_in v_this_length 100) (tl_gd (tl_in p2 100) ((fX0_demand_L1 v_leaders p1 p2 tl_N (0 : Int) v_leaders).bind fun x4 => some (va_up v_firsts v_this_length.toNat p1, x4, va_up v_seconds v_this_length.toNat p2, v_this_length + (1 : Int))))) else some (v_firsts, v_leaders, v_seconds, v_this_length)))))))
def fX0_matchRows_L1 (v_p1_lengths : Nat → Int) (v_p1_words : Nat → Int64) (p2 : Int) (p3 : Int) (p4 : Int) (z1 : Int) : Nat → Int → Int → (Nat → Int) → (Nat → Int) → (Nat → Int) → Option (Int × (Nat → Int) × (Nat → Int) × (Nat → Int))
  | 0, _, _, _, _, _ => none
  | n + 1, x3, x4, x5, x6, x7 => tl_gd (tl_R x3 ∧ tl_R z1) (if x3 < z1 then (fX3_get v_p1_lengths v_p1_words p2 p3 x3).bind fun z8 => (fX3_get v_p1_lengths v_p1_words p2 p4 x3).bind fun z9 => (fX0_demand x4 x5 x6 x7 z8 z9).bind fun z10 => fX0_matchRows_L1 v_p1_lengths v_p1_words p2 p3 p4 z1 n (x3 + 1) z10.2.2.2 z10.1 z10.2.1 z10.2.2.1 else some (x4, x5, x6, x7))
def fX0_matchRows (v_this_length : Int) (v_firsts : Nat → Int) (v_leaders : Nat → Int) (v_seconds : Nat → Int) (v_p1_lengths : Nat → Int) (v_p1_words : Nat → Int64) (p2 : Int) (p3 : Int) (p4 : Int) : Option (Int × (Nat → Int) × (Nat → Int) × (Nat → Int) × Int) :=
  (fX3_lengthOf v_p1_lengths p2 p3).bind fun z1 => (fX3_lengthOf v_p1_lengths p2 p4).bind fun z2 => tl_gd (tl_R z1 ∧ tl_R z2) (if z1 = z2 then (fX0_matchRows_L1 v_p1_lengths v_p1_words p2 p3 p4 z1 tl_N (0 : Int) v_this_length v_firsts v_leaders v_seconds).bind fun z11 => match z11 with | (x4, x5, x6, x7) => some ((1 : Int), x5, x6, x7, x4) else some ((0 : Int), v_firsts, v_leaders, v_seconds, v_this_length))
def fX0_matchPair_L1 (v_told_length : Int) (v_told_rules : Nat → Int) (v_p1_objects : Int) (v_p1_pairs : Int) (v_p1_has_lengths : Nat → Int) (v_p1_has_words : Nat → Int64) (p2 : Int) (p3 : Int) : Nat → Int → Int → (Nat → Int) → (Nat → Int) → (Nat → Int) → Option ((Int × (Nat → Int) × (Nat → Int) × (Nat → Int)) ⊕ (Int × (Nat → Int) × (Nat → Int) × (Nat → Int) × Int))
  | 0, _, _, _, _, _ => none
  | n + 1, x3, x4, x5, x6, x7 => (fX5_howMany v_told_length).bind fun z8 => tl_gd (tl_R x3 ∧ tl_R z8) (if x3 < z8 then (fX5_hasRule v_told_length v_told_rules x3 (1 : Int)).bind fun z9 => tl_gd (tl_R z9) (if z9 = 0 then fX0_matchPair_L1 v_told_length v_told_rules v_p1_objects v_p1_pairs v_p1_has_lengths v_p1_has_words p2 p3 n (x3 + 1) x4 x5 x6 x7 else (fX1_has v_p1_objects v_p1_pairs).bind fun z10 => (fX0_matchRows x4 x5 x6 x7 v_p1_has_lengths v_p1_has_words x3 p2 p3).bind fun z11 => tl_gd (tl_R z11.1) (if z11.1 = 0 then some (.inr ((0 : Int), z11.2.1, z11.2.2.1, z11.2.2.2.1, z11.2.2.2.2)) else fX0_matchPair_L1 v_told_length v_told_rules v_p1_objects v_p1_pairs v_p1_has_lengths v_p1_has_words p2 p3 n (x3 + 1) z11.2.2.2.2 z11.2.1 z11.2.2.1 z11.2.2.2.1)) else some (.inl (x4, x5, x6, x7)))
def fX0_matchPair (v_this_length : Int) (v_firsts : Nat → Int) (v_leaders : Nat → Int) (v_seconds : Nat → Int) (v_told_length : Int) (v_told_rules : Nat → Int) (v_p1_objects : Int) (v_p1_pairs : Int) (v_p1_has_lengths : Nat → Int) (v_p1_has_words : Nat → Int64) (v_p1_kinds : Nat → Int) (p2 : Int) (p3 : Int) : Option (Int × (Nat → Int) × (Nat → Int) × (Nat → Int) × Int) :=
  (fX1_kindOf v_p1_objects v_p1_pairs v_p1_kinds p2).bind fun z1 => (fX1_kindOf v_p1_objects v_p1_pairs v_p1_kinds p3).bind fun z2 => tl_gd (tl_R z1 ∧ tl_R z2) (if z1 = z2 then (fX0_matchPair_L1 v_told_length v_told_rules v_p1_objects v_p1_pairs v_p1_has_lengths v_p1_has_words p2 p3 tl_N (0 : Int) v_this_length v_firsts v_leaders v_seconds).bind fun o => match o with | .inl (x4, x5, x6, x7) => some ((1 : Int), x5, x6, x7, x4) | .inr r => some r else some ((0 : Int), v_firsts, v_leaders, v_seconds, v_this_length))
def fX0_match_L1  : Nat → Int → (Nat → Int) → Option (Nat → Int)
  | 0, _, _ => none
  | n + 1, x1, x2 => tl_gd (tl_R x1 ∧ tl_R (100 : Int)) (if x1 < (100 : Int) then tl_gd (tl_in x1 100) (fX0_match_L1 n (x1 + 1) (va_up x2 x1.toNat x1)) else some x2)
def fX0_match_L2 (v_told_length : Int) (v_told_rules : Nat → Int) (v_p1_objects : Int) (v_p1_pairs : Int) (v_p1_has_lengths : Nat → Int) (v_p1_has_words : Nat → Int64) (v_p1_kinds : Nat → Int) : Nat → Int → Int → (Nat → Int) → (Nat → Int) → (Nat → Int) → Option ((Int × (Nat → Int) × (Nat → Int) × (Nat → Int)) ⊕ (Int × (Nat → Int) × (Nat → Int) × (Nat → Int) × Int))
  | 0, _, _, _, _, _ => none
  | n + 1, x5, x6, x7, x8, x9 => tl_gd (tl_R x5 ∧ tl_R x6) (if x5 < x6 then tl_gd (tl_R x5 ∧ tl_R (100 : Int)) (if x5 < (100 : Int) then tl_gd (tl_in x5 100) (tl_gd (tl_in x5 100) ((fX0_matchPair x6 x7 x8 x9 v_told_length v_told_rules v_p1_objects v_p1_pairs v_p1_has_lengths v_p1_has_words v_p1_kinds (x7 x5.toNat) (x9 x5.toNat)).bind fun z10 => tl_gd (tl_R z10.1) (if z10.1 = 0 then some (.inr ((0 : Int), z10.2.1, z10.2.2.1, z10.2.2.2.1, z10.2.2.2.2)) else fX0_match_L2 v_told_length v_told_rules v_p1_objects v_p1_pairs v_p1_has_lengths v_p1_has_words v_p1_kinds n (x5 + 1) z10.2.2.2.2 z10.2.1 z10.2.2.1 z10.2.2.2.1))) else some (.inl (x6, x7, x8, x9))) else some (.inl (x6, x7, x8, x9)))
def fX0_match (v_this_length : Int) (v_firsts : Nat → Int) (v_leaders : Nat → Int) (v_seconds : Nat → Int) (v_told_length : Int) (v_told_rules : Nat → Int) (v_p1_objects : Int) (v_p1_pairs : Int) (v_p1_has_lengths : Nat → Int) (v_p1_has_words : Nat → Int64) (v_p1_kinds : Nat → Int) (p2 : Int) (p3 : Int) : Option (Int × (Nat → Int) × (Nat → Int) × (Nat → Int) × Int) :=
  (fX0_match_L1 tl_N (0 : Int) v_leaders).bind fun x2 => (fX0_demand (0 : Int) v_firsts x2 v_seconds p2 p3).bind fun z4 => (fX0_match_L2 v_told_length v_told_rules v_p1_objects v_p1_pairs v_p1_has_lengths v_p1_has_words v_p1_kinds tl_N (0 : Int) z4.2.2.2 z4.1 z4.2.1 z4.2.2.1).bind fun o => match o with | .inl (x6, x7, x8, x9) => some ((1 : Int), x7, x8, x9, x6) | .inr r => some r
end
section
set_option maxHeartbeats 4000000 in
set_option maxRecDepth 100000 in
theorem kt_X4_isSlot (l : Launch) (D : va_G) (cy : Nat → ClassId)  (p1 : Int) (z : Int) (hf : fX4_isSlot p1 = some z) :
    tl_MC l D (tl_tys cy) yX4_isSlot (tl_w yX4_isSlot cX4_isSlot 1 (some .boolean)) { frames := 0, cells := 0, slots := 0, locals := 0 } [.int (tl_I p1)] [] 0 0 (fun v w1 => v = some (.int (tl_I z)) ∧ w1 = []) := by
  refine tl_ofW (cc := cX4_isSlot) (maxL := 1) (ret := (some .boolean)) (by decide +kernel) (Nat.le_of_ble_eq_true rfl) ?_
  intro p e s m below meth c hx hb hr hml hts hown hlocks hnm A hAe hA hP hK hD hS ls hl
  have hl : lv_has ls 1 [(0, .int (tl_I p1))] := hl
  unfold fX4_isSlot at hf
  refine lv_iload_n hx hb dX4_isSlot_0 rfl (lv_at hl 0 rfl) ?_
  refine tr_if_lt (tgt := 14) hx hb hf dX4_isSlot_1 (by decide) (fun hc hf => ?_) (fun hc hf => ?_)
  · refine lv_iconst (v := tl_I (0 : Int)) hx hb dX4_isSlot_14 rfl ?_
    injection hf with hf
    subst hf
    exact W.zret (v := tl_I (0 : Int)) hx hb hr rfl (fun t ht hW => tl_fin hAe ⟨rfl, rfl⟩ (hP.sub (ws' := []) [] rfl) hK (hD.sub (ws' := []) [] (by decide) rfl) hS ht hW) hS.2.2 dX4_isSlot_15
  · refine lv_iload_n hx hb dX4_isSlot_4 rfl (lv_at hl 0 rfl) ?_
    refine lv_bipush (v := tl_I (100 : Int)) hx hb dX4_isSlot_5 rfl ?_
    refine tr_icmp_ge (tgt := 14) hx hb hf dX4_isSlot_7 (by decide) (fun hc hf => ?_) (fun hc hf => ?_)
    · refine lv_iconst (v := tl_I (1 : Int)) hx hb dX4_isSlot_10 rfl ?_
      refine lv_goto (tgt := 15) hx hb dX4_isSlot_11 (by decide) ?_
      injection hf with hf
      subst hf
      exact W.zret (v := tl_I (1 : Int)) hx hb hr rfl (fun t ht hW => tl_fin hAe ⟨rfl, rfl⟩ (hP.sub (ws' := []) [] rfl) hK (hD.sub (ws' := []) [] (by decide) rfl) hS ht hW) hS.2.2 dX4_isSlot_15
    · refine lv_iconst (v := tl_I (0 : Int)) hx hb dX4_isSlot_14 rfl ?_
      injection hf with hf
      subst hf
      exact W.zret (v := tl_I (0 : Int)) hx hb hr rfl (fun t ht hW => tl_fin hAe ⟨rfl, rfl⟩ (hP.sub (ws' := []) [] rfl) hK (hD.sub (ws' := []) [] (by decide) rfl) hS ht hW) hS.2.2 dX4_isSlot_15
set_option maxHeartbeats 4000000 in
set_option maxRecDepth 100000 in
theorem kt_X4_length (l : Launch) (D : va_G) (cy : Nat → ClassId) (a_this a_inside a_list : Nat) (v_this_length : Int) (z : Int) (hf : fX4_length v_this_length = some z) :
    tl_MC l D (tl_tys cy) yX4_length (tl_w yX4_length cX4_length 1 (some .int)) { frames := 0, cells := 0, slots := 0, locals := 0 } [.ref a_this] [tl_ob a_this 5 [.ref a_inside, .ref a_list, .int (tl_I v_this_length)]] 0 0 (fun v w1 => v = some (.int (tl_I z)) ∧ w1 = [tl_ob a_this 5 [.ref a_inside, .ref a_list, .int (tl_I v_this_length)]]) := by
  refine tl_ofW (cc := cX4_length) (maxL := 1) (ret := (some .int)) (by decide +kernel) (Nat.le_of_ble_eq_true rfl) ?_
  intro p e s m below meth c hx hb hr hml hts hown hlocks hnm A hAe hA hP hK hD hS ls hl
  have hl : lv_has ls 1 [(0, .ref a_this)] := hl
  unfold fX4_length at hf
  refine lv_aload_n hx hb dX4_length_0 rfl (lv_at hl 0 rfl) ?_
  refine va_get (ci := 5) (v := .int (tl_I v_this_length)) (C := RX4) (T := TX4) (N := 3) hx hb hts in_X4 hown hK hP 0 rfl rfl 2 (by decide) (hts _ tw_139) (fun _ h9 => h9) rfl dX4_length_1 ?_
  injection hf with hf
  subst hf
  exact W.iret (v := tl_I v_this_length) hx hb hr (fun t ht hW => tl_fin hAe ⟨rfl, rfl⟩ (hP.sub (ws' := [tl_ob a_this 5 [.ref a_inside, .ref a_list, .int (tl_I v_this_length)]]) [0] rfl) hK (hD.sub (ws' := [tl_ob a_this 5 [.ref a_inside, .ref a_list, .int (tl_I v_this_length)]]) [0] (by decide) rfl) hS ht hW) hS.2.2 dX4_length_4
set_option maxHeartbeats 4000000 in
set_option maxRecDepth 100000 in
theorem kt_X4_get (l : Launch) (D : va_G) (cy : Nat → ClassId) (a_this a_list a_inside : Nat) (v_this_length : Int) (v_list : Nat → Int) (p1 : Int) (z : Int) (hf : fX4_get v_this_length v_list p1 = some z) :
    tl_MC l D (tl_tys cy) yX4_get (tl_w yX4_get cX4_get 2 (some .int)) { frames := 0, cells := 0, slots := 0, locals := 0 } [.ref a_this, .int (tl_I p1)] [tl_ob a_this 5 [.ref a_inside, .ref a_list, .int (tl_I v_this_length)], tl_ia (cy 1) a_list 100 v_list] 0 0 (fun v w1 => v = some (.int (tl_I z)) ∧ w1 = [tl_ob a_this 5 [.ref a_inside, .ref a_list, .int (tl_I v_this_length)], tl_ia (cy 1) a_list 100 v_list]) := by
  refine tl_ofW (cc := cX4_get) (maxL := 2) (ret := (some .int)) (by decide +kernel) (Nat.le_of_ble_eq_true rfl) ?_
  intro p e s m below meth c hx hb hr hml hts hown hlocks hnm A hAe hA hP hK hD hS ls hl
  have hl : lv_has ls 2 [(0, .ref a_this), (1, .int (tl_I p1))] := hl
  unfold fX4_get at hf
  refine lv_iload_n hx hb dX4_get_0 rfl (lv_at hl 1 rfl) ?_
  refine tr_if_lt (tgt := 21) hx hb hf dX4_get_1 (by decide) (fun hc hf => ?_) (fun hc hf => ?_)
  · refine lv_iconst (v := tl_I (-1 : Int)) hx hb dX4_get_21 rfl ?_
    injection hf with hf
    subst hf
    exact W.iret (v := tl_I (-1 : Int)) hx hb hr (fun t ht hW => tl_fin hAe ⟨rfl, rfl⟩ (hP.sub (ws' := [tl_ob a_this 5 [.ref a_inside, .ref a_list, .int (tl_I v_this_length)], tl_ia (cy 1) a_list 100 v_list]) [0, 1] rfl) hK (hD.sub (ws' := [tl_ob a_this 5 [.ref a_inside, .ref a_list, .int (tl_I v_this_length)], tl_ia (cy 1) a_list 100 v_list]) [0, 1] (by decide) rfl) hS ht hW) hS.2.2 dX4_get_22
  · refine lv_iload_n hx hb dX4_get_4 rfl (lv_at hl 1 rfl) ?_
    refine lv_aload_n hx hb dX4_get_5 rfl (lv_at hl 0 rfl) ?_
    refine va_get (ci := 5) (v := .int (tl_I v_this_length)) (C := RX4) (T := TX4) (N := 3) hx hb hts in_X4 hown hK hP 0 rfl rfl 2 (by decide) (hts _ tw_139) (fun _ h9 => h9) rfl dX4_get_6 ?_
    refine tr_icmp_ge (tgt := 21) hx hb hf dX4_get_9 (by decide) (fun hc hf => ?_) (fun hc hf => ?_)
    · refine lv_aload_n hx hb dX4_get_12 rfl (lv_at hl 0 rfl) ?_
      refine va_get (ci := 5) (v := .ref a_list) (C := RX4) (T := TX4) (N := 3) hx hb hts in_X4 hown hK hP 0 rfl rfl 1 (by decide) (hts _ tw_138) (fun _ h9 => h9) rfl dX4_get_13 ?_
      refine lv_iload_n hx hb dX4_get_16 rfl (lv_at hl 1 rfl) ?_
      refine tr_iald hx hb hf hK hP 1 1 rfl rfl (by decide) dX4_get_17 (fun hf => ?_)
      refine lv_goto (tgt := 22) hx hb dX4_get_18 (by decide) ?_
      injection hf with hf
      subst hf
      exact W.iret (v := tl_I (v_list p1.toNat)) hx hb hr (fun t ht hW => tl_fin hAe ⟨rfl, rfl⟩ (hP.sub (ws' := [tl_ob a_this 5 [.ref a_inside, .ref a_list, .int (tl_I v_this_length)], tl_ia (cy 1) a_list 100 v_list]) [0, 1] rfl) hK (hD.sub (ws' := [tl_ob a_this 5 [.ref a_inside, .ref a_list, .int (tl_I v_this_length)], tl_ia (cy 1) a_list 100 v_list]) [0, 1] (by decide) rfl) hS ht hW) hS.2.2 dX4_get_22
    · refine lv_iconst (v := tl_I (-1 : Int)) hx hb dX4_get_21 rfl ?_
      injection hf with hf
      subst hf
      exact W.iret (v := tl_I (-1 : Int)) hx hb hr (fun t ht hW => tl_fin hAe ⟨rfl, rfl⟩ (hP.sub (ws' := [tl_ob a_this 5 [.ref a_inside, .ref a_list, .int (tl_I v_this_length)], tl_ia (cy 1) a_list 100 v_list]) [0, 1] rfl) hK (hD.sub (ws' := [tl_ob a_this 5 [.ref a_inside, .ref a_list, .int (tl_I v_this_length)], tl_ia (cy 1) a_list 100 v_list]) [0, 1] (by decide) rfl) hS ht hW) hS.2.2 dX4_get_22
set_option maxHeartbeats 4000000 in
set_option maxRecDepth 100000 in
theorem kt_X4_holds (l : Launch) (D : va_G) (cy : Nat → ClassId) (a_this a_inside a_list : Nat) (v_this_length : Int) (v_inside : Nat → Int) (p1 : Int) (z : Int) (hf : fX4_holds v_this_length v_inside p1 = some z) :
    tl_MC l D (tl_tys cy) yX4_holds (tl_w yX4_holds cX4_holds 2 (some .boolean)) { frames := 1, cells := 0, slots := 0, locals := 20 } [.ref a_this, .int (tl_I p1)] [tl_ob a_this 5 [.ref a_inside, .ref a_list, .int (tl_I v_this_length)], tl_ia (cy 3) a_inside 100 v_inside] 0 0 (fun v w1 => v = some (.int (tl_I z)) ∧ w1 = [tl_ob a_this 5 [.ref a_inside, .ref a_list, .int (tl_I v_this_length)], tl_ia (cy 3) a_inside 100 v_inside]) := by
  refine tl_ofW (cc := cX4_holds) (maxL := 2) (ret := (some .boolean)) (by decide +kernel) (Nat.le_of_ble_eq_true rfl) ?_
  intro p e s m below meth c hx hb hr hml hts hown hlocks hnm A hAe hA hP hK hD hS ls hl
  have hl : lv_has ls 2 [(0, .ref a_this), (1, .int (tl_I p1))] := hl
  unfold fX4_holds at hf
  refine lv_iload_n hx hb dX4_holds_0 rfl (lv_at hl 1 rfl) ?_
  obtain ⟨z1, hz, hf⟩ := tl_bs hf
  refine tl_callS0 (As := [.int (tl_I p1)]) (rest := []) (wr := [tl_ob a_this 5 [.ref a_inside, .ref a_list, .int (tl_I v_this_length)], tl_ia (cy 3) a_inside 100 v_inside]) ⟨hx, hb, hml, hown, hts⟩ (kt_X4_isSlot l D cy p1 z1 hz) (va_cwS 1 hts tg_X4_23 rfl rfl rfl td_X4_isSlot ⟨by decide, by decide⟩) hK hP hD hS hA [] [0, 1] rfl rfl rfl rfl (by decide) rfl hl.1 rfl (Nat.le_of_ble_eq_true rfl) dX4_holds_1 ⟨by decide, by decide⟩ (fun v w1 H locs hp hP hD hS => ?_)
  obtain ⟨rfl, rfl⟩ := hp
  have hP : va_P D vwCl [tl_ob a_this 5 [.ref a_inside, .ref a_list, .int (tl_I v_this_length)], tl_ia (cy 3) a_inside 100 v_inside] H := hP
  have hD : va_D A [tl_ob a_this 5 [.ref a_inside, .ref a_list, .int (tl_I v_this_length)], tl_ia (cy 3) a_inside 100 v_inside] := hD
  refine W.eq (g2 := F0 m 4 ls [.int (tl_I z1)]) rfl ?_
  refine tr_if_eq (tgt := 20) hx hb hf dX4_holds_4 (by decide) (fun hc hf => ?_) (fun hc hf => ?_)
  · refine lv_iconst (v := tl_I (0 : Int)) hx hb dX4_holds_20 rfl ?_
    injection hf with hf
    subst hf
    exact W.zret (v := tl_I (0 : Int)) hx hb hr rfl (fun t ht hW => tl_fin hAe ⟨rfl, rfl⟩ (hP.sub (ws' := [tl_ob a_this 5 [.ref a_inside, .ref a_list, .int (tl_I v_this_length)], tl_ia (cy 3) a_inside 100 v_inside]) [0, 1] rfl) hK (hD.sub (ws' := [tl_ob a_this 5 [.ref a_inside, .ref a_list, .int (tl_I v_this_length)], tl_ia (cy 3) a_inside 100 v_inside]) [0, 1] (by decide) rfl) hS ht hW) hS.2.2 dX4_holds_21
  · refine lv_aload_n hx hb dX4_holds_7 rfl (lv_at hl 0 rfl) ?_
    refine va_get (ci := 5) (v := .ref a_inside) (C := RX4) (T := TX4) (N := 3) hx hb hts in_X4 hown hK hP 0 rfl rfl 0 (by decide) (hts _ tw_137) (fun _ h9 => h9) rfl dX4_holds_8 ?_
    refine lv_iload_n hx hb dX4_holds_11 rfl (lv_at hl 1 rfl) ?_
    refine tr_zald hx hb hf hK hP 1 3 rfl rfl (by decide) dX4_holds_12 (fun hf => ?_)
    refine tr_if_eq (tgt := 20) hx hb hf dX4_holds_13 (by decide) (fun hc hf => ?_) (fun hc hf => ?_)
    · refine lv_iconst (v := tl_I (0 : Int)) hx hb dX4_holds_20 rfl ?_
      injection hf with hf
      subst hf
      exact W.zret (v := tl_I (0 : Int)) hx hb hr rfl (fun t ht hW => tl_fin hAe ⟨rfl, rfl⟩ (hP.sub (ws' := [tl_ob a_this 5 [.ref a_inside, .ref a_list, .int (tl_I v_this_length)], tl_ia (cy 3) a_inside 100 v_inside]) [0, 1] rfl) hK (hD.sub (ws' := [tl_ob a_this 5 [.ref a_inside, .ref a_list, .int (tl_I v_this_length)], tl_ia (cy 3) a_inside 100 v_inside]) [0, 1] (by decide) rfl) hS ht hW) hS.2.2 dX4_holds_21
    · refine lv_iconst (v := tl_I (1 : Int)) hx hb dX4_holds_16 rfl ?_
      refine lv_goto (tgt := 21) hx hb dX4_holds_17 (by decide) ?_
      injection hf with hf
      subst hf
      exact W.zret (v := tl_I (1 : Int)) hx hb hr rfl (fun t ht hW => tl_fin hAe ⟨rfl, rfl⟩ (hP.sub (ws' := [tl_ob a_this 5 [.ref a_inside, .ref a_list, .int (tl_I v_this_length)], tl_ia (cy 3) a_inside 100 v_inside]) [0, 1] rfl) hK (hD.sub (ws' := [tl_ob a_this 5 [.ref a_inside, .ref a_list, .int (tl_I v_this_length)], tl_ia (cy 3) a_inside 100 v_inside]) [0, 1] (by decide) rfl) hS ht hW) hS.2.2 dX4_holds_21
set_option maxHeartbeats 4000000 in
set_option maxRecDepth 100000 in
theorem kt_X4_add (l : Launch) (D : va_G) (cy : Nat → ClassId) (a_this a_inside a_list : Nat) (v_this_length : Int) (v_inside : Nat → Int) (v_list : Nat → Int) (p1 : Int) (z : (Nat → Int) × (Nat → Int) × Int) (hf : fX4_add v_this_length v_inside v_list p1 = some z) :
    tl_MC l D (tl_tys cy) yX4_add (tl_w yX4_add cX4_add 2 none) { frames := 1, cells := 0, slots := 0, locals := 20 } [.ref a_this, .int (tl_I p1)] [tl_ob a_this 5 [.ref a_inside, .ref a_list, .int (tl_I v_this_length)], tl_ia (cy 3) a_inside 100 v_inside, tl_ia (cy 1) a_list 100 v_list] 0 0 (fun v w1 => v = none ∧ w1 = [tl_ob a_this 5 [.ref a_inside, .ref a_list, .int (tl_I z.2.2)], tl_ia (cy 3) a_inside 100 z.1, tl_ia (cy 1) a_list 100 z.2.1]) := by
  refine tl_ofW (cc := cX4_add) (maxL := 2) (ret := none) (by decide +kernel) (Nat.le_of_ble_eq_true rfl) ?_
  intro p e s m below meth c hx hb hr hml hts hown hlocks hnm A hAe hA hP hK hD hS ls hl
  have hl : lv_has ls 2 [(0, .ref a_this), (1, .int (tl_I p1))] := hl
  unfold fX4_add at hf
  refine lv_iload_n hx hb dX4_add_0 rfl (lv_at hl 1 rfl) ?_
  obtain ⟨z1, hz, hf⟩ := tl_bs hf
  refine tl_callS0 (As := [.int (tl_I p1)]) (rest := []) (wr := [tl_ob a_this 5 [.ref a_inside, .ref a_list, .int (tl_I v_this_length)], tl_ia (cy 3) a_inside 100 v_inside, tl_ia (cy 1) a_list 100 v_list]) ⟨hx, hb, hml, hown, hts⟩ (kt_X4_isSlot l D cy p1 z1 hz) (va_cwS 1 hts tg_X4_23 rfl rfl rfl td_X4_isSlot ⟨by decide, by decide⟩) hK hP hD hS hA [] [0, 1, 2] rfl rfl rfl rfl (by decide) rfl hl.1 rfl (Nat.le_of_ble_eq_true rfl) dX4_add_1 ⟨by decide, by decide⟩ (fun v w1 H locs hp hP hD hS => ?_)
  obtain ⟨rfl, rfl⟩ := hp
  have hP : va_P D vwCl [tl_ob a_this 5 [.ref a_inside, .ref a_list, .int (tl_I v_this_length)], tl_ia (cy 3) a_inside 100 v_inside, tl_ia (cy 1) a_list 100 v_list] H := hP
  have hD : va_D A [tl_ob a_this 5 [.ref a_inside, .ref a_list, .int (tl_I v_this_length)], tl_ia (cy 3) a_inside 100 v_inside, tl_ia (cy 1) a_list 100 v_list] := hD
  refine W.eq (g2 := F0 m 4 ls [.int (tl_I z1)]) rfl ?_
  refine tr_if_eq (tgt := 52) hx hb hf dX4_add_4 (by decide) (fun hc hf => ?_) (fun hc hf => ?_)
  · injection hf with hf
    subst hf
    exact W.vret hx hb hr (fun t ht hW => tl_fin hAe ⟨rfl, rfl⟩ (hP.sub (ws' := [tl_ob a_this 5 [.ref a_inside, .ref a_list, .int (tl_I v_this_length)], tl_ia (cy 3) a_inside 100 v_inside, tl_ia (cy 1) a_list 100 v_list]) [0, 1, 2] rfl) hK (hD.sub (ws' := [tl_ob a_this 5 [.ref a_inside, .ref a_list, .int (tl_I v_this_length)], tl_ia (cy 3) a_inside 100 v_inside, tl_ia (cy 1) a_list 100 v_list]) [0, 1, 2] (by decide) rfl) hS ht hW) hS.2.2 dX4_add_52
  · refine lv_aload_n hx hb dX4_add_7 rfl (lv_at hl 0 rfl) ?_
    refine va_get (ci := 5) (v := .ref a_inside) (C := RX4) (T := TX4) (N := 3) hx hb hts in_X4 hown hK hP 0 rfl rfl 0 (by decide) (hts _ tw_137) (fun _ h9 => h9) rfl dX4_add_8 ?_
    refine lv_iload_n hx hb dX4_add_11 rfl (lv_at hl 1 rfl) ?_
    refine tr_zald hx hb hf hK hP 1 3 rfl rfl (by decide) dX4_add_12 (fun hf => ?_)
    refine tr_if_ne (tgt := 52) hx hb hf dX4_add_13 (by decide) (fun hc hf => ?_) (fun hc hf => ?_)
    · refine lv_aload_n hx hb dX4_add_16 rfl (lv_at hl 0 rfl) ?_
      refine va_get (ci := 5) (v := .int (tl_I v_this_length)) (C := RX4) (T := TX4) (N := 3) hx hb hts in_X4 hown hK hP 0 rfl rfl 2 (by decide) (hts _ tw_139) (fun _ h9 => h9) rfl dX4_add_17 ?_
      refine lv_bipush (v := tl_I (100 : Int)) hx hb dX4_add_20 rfl ?_
      refine tr_icmp_ge (tgt := 52) hx hb hf dX4_add_22 (by decide) (fun hc hf => ?_) (fun hc hf => ?_)
      · refine lv_aload_n hx hb dX4_add_25 rfl (lv_at hl 0 rfl) ?_
        refine va_get (ci := 5) (v := .ref a_inside) (C := RX4) (T := TX4) (N := 3) hx hb hts in_X4 hown hK hP 0 rfl rfl 0 (by decide) (hts _ tw_137) (fun _ h9 => h9) rfl dX4_add_26 ?_
        refine lv_iload_n hx hb dX4_add_29 rfl (lv_at hl 1 rfl) ?_
        refine lv_iconst (v := tl_I (1 : Int)) hx hb dX4_add_30 rfl ?_
        refine tr_zast hx hb hf hK hP hD hS 1 3 rfl rfl (by decide) dX4_add_31 (fun hf H locs hP hD hS => ?_)
        have hP : va_P D vwCl [tl_ob a_this 5 [.ref a_inside, .ref a_list, .int (tl_I v_this_length)], tl_ia (cy 3) a_inside 100 (va_up v_inside p1.toNat (1 : Int)), tl_ia (cy 1) a_list 100 v_list] H := hP
        have hD : va_D A [tl_ob a_this 5 [.ref a_inside, .ref a_list, .int (tl_I v_this_length)], tl_ia (cy 3) a_inside 100 (va_up v_inside p1.toNat (1 : Int)), tl_ia (cy 1) a_list 100 v_list] := hD
        refine lv_aload_n hx hb dX4_add_32 rfl (lv_at hl 0 rfl) ?_
        refine va_get (ci := 5) (v := .ref a_list) (C := RX4) (T := TX4) (N := 3) hx hb hts in_X4 hown hK hP 0 rfl rfl 1 (by decide) (hts _ tw_138) (fun _ h9 => h9) rfl dX4_add_33 ?_
        refine lv_aload_n hx hb dX4_add_36 rfl (lv_at hl 0 rfl) ?_
        refine va_get (ci := 5) (v := .int (tl_I v_this_length)) (C := RX4) (T := TX4) (N := 3) hx hb hts in_X4 hown hK hP 0 rfl rfl 2 (by decide) (hts _ tw_139) (fun _ h9 => h9) rfl dX4_add_37 ?_
        refine lv_iload_n hx hb dX4_add_40 rfl (lv_at hl 1 rfl) ?_
        refine tr_iast hx hb hf hK hP hD hS 2 1 rfl rfl (by decide) dX4_add_41 (fun hf H locs hP hD hS => ?_)
        have hP : va_P D vwCl [tl_ob a_this 5 [.ref a_inside, .ref a_list, .int (tl_I v_this_length)], tl_ia (cy 3) a_inside 100 (va_up v_inside p1.toNat (1 : Int)), tl_ia (cy 1) a_list 100 (va_up v_list v_this_length.toNat p1)] H := hP
        have hD : va_D A [tl_ob a_this 5 [.ref a_inside, .ref a_list, .int (tl_I v_this_length)], tl_ia (cy 3) a_inside 100 (va_up v_inside p1.toNat (1 : Int)), tl_ia (cy 1) a_list 100 (va_up v_list v_this_length.toNat p1)] := hD
        refine lv_aload_n hx hb dX4_add_42 rfl (lv_at hl 0 rfl) ?_
        refine lv_dup hx hb dX4_add_43 rfl ?_
        refine va_get (ci := 5) (v := .int (tl_I v_this_length)) (C := RX4) (T := TX4) (N := 3) hx hb hts in_X4 hown hK hP 0 rfl rfl 2 (by decide) (hts _ tw_139) (fun _ h9 => h9) rfl dX4_add_44 ?_
        refine lv_iconst (v := tl_I (1 : Int)) hx hb dX4_add_47 rfl ?_
        refine tr_iadd hx hb dX4_add_48 ?_
        refine va_put (ci := 5) (v := .int (tl_I (v_this_length + (1 : Int)))) (ty := .int) (C := RX4) (T := TX4) (N := 3) hx hb hts in_X4 tyX4 tyX4_ok nmX4 hown hK hP hD hS 0 rfl rfl 2 (by decide) (hts _ tw_139) (fun _ h9 => h9) rfl (by decide +kernel) rfl rfl (Nat.le_of_ble_eq_true rfl) dX4_add_49 (fun H locs hP hD hS => ?_)
        have hP : va_P D vwCl [tl_ob a_this 5 [.ref a_inside, .ref a_list, .int (tl_I (v_this_length + (1 : Int)))], tl_ia (cy 3) a_inside 100 (va_up v_inside p1.toNat (1 : Int)), tl_ia (cy 1) a_list 100 (va_up v_list v_this_length.toNat p1)] H := hP
        have hD : va_D A [tl_ob a_this 5 [.ref a_inside, .ref a_list, .int (tl_I (v_this_length + (1 : Int)))], tl_ia (cy 3) a_inside 100 (va_up v_inside p1.toNat (1 : Int)), tl_ia (cy 1) a_list 100 (va_up v_list v_this_length.toNat p1)] := hD
        injection hf with hf
        subst hf
        exact W.vret hx hb hr (fun t ht hW => tl_fin hAe ⟨rfl, rfl⟩ (hP.sub (ws' := [tl_ob a_this 5 [.ref a_inside, .ref a_list, .int (tl_I (v_this_length + (1 : Int)))], tl_ia (cy 3) a_inside 100 (va_up v_inside p1.toNat (1 : Int)), tl_ia (cy 1) a_list 100 (va_up v_list v_this_length.toNat p1)]) [0, 1, 2] rfl) hK (hD.sub (ws' := [tl_ob a_this 5 [.ref a_inside, .ref a_list, .int (tl_I (v_this_length + (1 : Int)))], tl_ia (cy 3) a_inside 100 (va_up v_inside p1.toNat (1 : Int)), tl_ia (cy 1) a_list 100 (va_up v_list v_this_length.toNat p1)]) [0, 1, 2] (by decide) rfl) hS ht hW) hS.2.2 dX4_add_52
      · injection hf with hf
        subst hf
        exact W.vret hx hb hr (fun t ht hW => tl_fin hAe ⟨rfl, rfl⟩ (hP.sub (ws' := [tl_ob a_this 5 [.ref a_inside, .ref a_list, .int (tl_I v_this_length)], tl_ia (cy 3) a_inside 100 v_inside, tl_ia (cy 1) a_list 100 v_list]) [0, 1, 2] rfl) hK (hD.sub (ws' := [tl_ob a_this 5 [.ref a_inside, .ref a_list, .int (tl_I v_this_length)], tl_ia (cy 3) a_inside 100 v_inside, tl_ia (cy 1) a_list 100 v_list]) [0, 1, 2] (by decide) rfl) hS ht hW) hS.2.2 dX4_add_52
    · injection hf with hf
      subst hf
      exact W.vret hx hb hr (fun t ht hW => tl_fin hAe ⟨rfl, rfl⟩ (hP.sub (ws' := [tl_ob a_this 5 [.ref a_inside, .ref a_list, .int (tl_I v_this_length)], tl_ia (cy 3) a_inside 100 v_inside, tl_ia (cy 1) a_list 100 v_list]) [0, 1, 2] rfl) hK (hD.sub (ws' := [tl_ob a_this 5 [.ref a_inside, .ref a_list, .int (tl_I v_this_length)], tl_ia (cy 3) a_inside 100 v_inside, tl_ia (cy 1) a_list 100 v_list]) [0, 1, 2] (by decide) rfl) hS ht hW) hS.2.2 dX4_add_52
set_option maxHeartbeats 4000000 in
set_option maxRecDepth 100000 in
theorem kt_X4_clear (l : Launch) (D : va_G) (cy : Nat → ClassId) (a_this a_inside a_list : Nat) (v_this_length : Int) (v_inside : Nat → Int) (v_list : Nat → Int) (z : (Nat → Int) × Int) (hf : fX4_clear v_this_length v_inside v_list = some z) :
    tl_MC l D (tl_tys cy) yX4_clear (tl_w yX4_clear cX4_clear 2 none) { frames := 0, cells := 0, slots := 0, locals := 0 } [.ref a_this] [tl_ob a_this 5 [.ref a_inside, .ref a_list, .int (tl_I v_this_length)], tl_ia (cy 3) a_inside 100 v_inside, tl_ia (cy 1) a_list 100 v_list] 0 0 (fun v w1 => v = none ∧ w1 = [tl_ob a_this 5 [.ref a_inside, .ref a_list, .int (tl_I z.2)], tl_ia (cy 3) a_inside 100 z.1, tl_ia (cy 1) a_list 100 v_list]) := by
  refine tl_ofW (cc := cX4_clear) (maxL := 2) (ret := none) (by decide +kernel) (Nat.le_of_ble_eq_true rfl) ?_
  intro p e s m below meth c hx hb hr hml hts hown hlocks hnm A hAe hA hP hK hD hS ls hl
  have hl : lv_has ls 2 [(0, .ref a_this)] := hl
  unfold fX4_clear at hf
  refine lv_iconst (v := tl_I (0 : Int)) hx hb dX4_clear_0 rfl ?_
  refine lv_istore_n (lv' := [(1, .int (tl_I (0 : Int))), (0, .ref a_this)]) hx hb dX4_clear_1 rfl hl (by decide) rfl (fun ls hl => ?_)
  have lp1 : ∀ (n : Nat) (x1 : Int) (x2 : Nat → Int) (out : Nat → Int), fX4_clear_L1 v_this_length v_list n x1 x2 = some out → ∀ (H : Heap) (locs : List Loc) (ls : Array Slot), va_P D vwCl [tl_ob a_this 5 [.ref a_inside, .ref a_list, .int (tl_I v_this_length)], tl_ia (cy 3) a_inside 100 x2, tl_ia (cy 1) a_list 100 v_list] H → va_D A [tl_ob a_this 5 [.ref a_inside, .ref a_list, .int (tl_I v_this_length)], tl_ia (cy 3) a_inside 100 x2, tl_ia (cy 1) a_list 100 v_list] → va_S A s.heap H locs → lv_has ls 2 [(1, .int (tl_I x1)), (0, .ref a_this)] → (∀ (x2 : Nat → Int), out = x2 → ∀ (H : Heap) (locs : List Loc) (ls : Array Slot), va_P D vwCl [tl_ob a_this 5 [.ref a_inside, .ref a_list, .int (tl_I v_this_length)], tl_ia (cy 3) a_inside 100 x2, tl_ia (cy 1) a_list 100 v_list] H → va_D A [tl_ob a_this 5 [.ref a_inside, .ref a_list, .int (tl_I v_this_length)], tl_ia (cy 3) a_inside 100 x2, tl_ia (cy 1) a_list 100 v_list] → va_S A s.heap H locs → lv_has ls 2 [(0, .ref a_this)] → W p l e { frames := 0, cells := 0, slots := 0, locals := 0 } s m ([.ref a_this] : List Value).toArray below meth c H locs 0 0 (MQ below (tl_Q D (tl_tys cy) [tl_ob a_this 5 [.ref a_inside, .ref a_list, .int (tl_I v_this_length)], tl_ia (cy 3) a_inside 100 v_inside, tl_ia (cy 1) a_list 100 v_list] s.heap.size (fun v w1 => v = none ∧ w1 = [tl_ob a_this 5 [.ref a_inside, .ref a_list, .int (tl_I z.2)], tl_ia (cy 3) a_inside 100 z.1, tl_ia (cy 1) a_list 100 v_list])) ([.ref a_this] : List Value).toArray s 0 0 A) (F0 m 28 ls [])) → W p l e { frames := 0, cells := 0, slots := 0, locals := 0 } s m ([.ref a_this] : List Value).toArray below meth c H locs 0 0 (MQ below (tl_Q D (tl_tys cy) [tl_ob a_this 5 [.ref a_inside, .ref a_list, .int (tl_I v_this_length)], tl_ia (cy 3) a_inside 100 v_inside, tl_ia (cy 1) a_list 100 v_list] s.heap.size (fun v w1 => v = none ∧ w1 = [tl_ob a_this 5 [.ref a_inside, .ref a_list, .int (tl_I z.2)], tl_ia (cy 3) a_inside 100 z.1, tl_ia (cy 1) a_list 100 v_list])) ([.ref a_this] : List Value).toArray s 0 0 A) (F0 m 2 ls []) := by
    intro n
    induction n with
    | zero =>
      intro x1 x2 out hf
      cases hf
    | succ n ih =>
      intro x1 x2 out hf H locs ls hP hD hS hl hE
      rw [fX4_clear_L1] at hf
      refine lv_iload_n hx hb dX4_clear_2 rfl (lv_at hl 0 rfl) ?_
      refine lv_aload_n hx hb dX4_clear_3 rfl (lv_at hl 1 rfl) ?_
      refine va_get (ci := 5) (v := .int (tl_I v_this_length)) (C := RX4) (T := TX4) (N := 3) hx hb hts in_X4 hown hK hP 0 rfl rfl 2 (by decide) (hts _ tw_139) (fun _ h9 => h9) rfl dX4_clear_4 ?_
      refine tr_icmp_ge (tgt := 28) hx hb hf dX4_clear_7 (by decide) (fun hc hf => ?_) (fun hc hf => ?_)
      · refine lv_aload_n hx hb dX4_clear_10 rfl (lv_at hl 1 rfl) ?_
        refine va_get (ci := 5) (v := .ref a_inside) (C := RX4) (T := TX4) (N := 3) hx hb hts in_X4 hown hK hP 0 rfl rfl 0 (by decide) (hts _ tw_137) (fun _ h9 => h9) rfl dX4_clear_11 ?_
        refine lv_aload_n hx hb dX4_clear_14 rfl (lv_at hl 1 rfl) ?_
        refine va_get (ci := 5) (v := .ref a_list) (C := RX4) (T := TX4) (N := 3) hx hb hts in_X4 hown hK hP 0 rfl rfl 1 (by decide) (hts _ tw_138) (fun _ h9 => h9) rfl dX4_clear_15 ?_
        refine lv_iload_n hx hb dX4_clear_18 rfl (lv_at hl 0 rfl) ?_
        refine tr_iald hx hb hf hK hP 2 1 rfl rfl (by decide) dX4_clear_19 (fun hf => ?_)
        refine lv_iconst (v := tl_I (0 : Int)) hx hb dX4_clear_20 rfl ?_
        refine tr_zast hx hb hf hK hP hD hS 1 3 rfl rfl (by decide) dX4_clear_21 (fun hf H locs hP hD hS => ?_)
        have hP : va_P D vwCl [tl_ob a_this 5 [.ref a_inside, .ref a_list, .int (tl_I v_this_length)], tl_ia (cy 3) a_inside 100 (va_up x2 ((v_list x1.toNat).toNat) (0 : Int)), tl_ia (cy 1) a_list 100 v_list] H := hP
        have hD : va_D A [tl_ob a_this 5 [.ref a_inside, .ref a_list, .int (tl_I v_this_length)], tl_ia (cy 3) a_inside 100 (va_up x2 ((v_list x1.toNat).toNat) (0 : Int)), tl_ia (cy 1) a_list 100 v_list] := hD
        refine lv_iinc (v := tl_I (x1 + 1)) (lv' := [(1, .int (tl_I (x1 + 1))), (0, .ref a_this)]) hx hb dX4_clear_22 hl (k := 0) rfl (tl_add _ _) (by decide) rfl (fun ls hl => ?_)
        refine lv_goto (tgt := 2) hx hb dX4_clear_25 (by decide) ?_
        exact ih (x1 + 1) (va_up x2 ((v_list x1.toNat).toNat) (0 : Int)) out hf _ _ _ (hP.sub (ws' := [tl_ob a_this 5 [.ref a_inside, .ref a_list, .int (tl_I v_this_length)], tl_ia (cy 3) a_inside 100 (va_up x2 ((v_list x1.toNat).toNat) (0 : Int)), tl_ia (cy 1) a_list 100 v_list]) [0, 1, 2] rfl) (hD.sub (ws' := [tl_ob a_this 5 [.ref a_inside, .ref a_list, .int (tl_I v_this_length)], tl_ia (cy 3) a_inside 100 (va_up x2 ((v_list x1.toNat).toNat) (0 : Int)), tl_ia (cy 1) a_list 100 v_list]) [0, 1, 2] (by decide) rfl) hS (lv_sub hl [0, 1] rfl) hE
      · injection hf with hf
        subst hf
        exact hE x2 rfl _ _ _ (hP.sub (ws' := [tl_ob a_this 5 [.ref a_inside, .ref a_list, .int (tl_I v_this_length)], tl_ia (cy 3) a_inside 100 x2, tl_ia (cy 1) a_list 100 v_list]) [0, 1, 2] rfl) (hD.sub (ws' := [tl_ob a_this 5 [.ref a_inside, .ref a_list, .int (tl_I v_this_length)], tl_ia (cy 3) a_inside 100 x2, tl_ia (cy 1) a_list 100 v_list]) [0, 1, 2] (by decide) rfl) hS (lv_sub hl [1] rfl)
  obtain ⟨o, hz, hf⟩ := tl_bs hf
  refine lp1 tl_N (0 : Int) v_inside o hz _ _ _ (hP.sub (ws' := [tl_ob a_this 5 [.ref a_inside, .ref a_list, .int (tl_I v_this_length)], tl_ia (cy 3) a_inside 100 v_inside, tl_ia (cy 1) a_list 100 v_list]) [0, 1, 2] rfl) (hD.sub (ws' := [tl_ob a_this 5 [.ref a_inside, .ref a_list, .int (tl_I v_this_length)], tl_ia (cy 3) a_inside 100 v_inside, tl_ia (cy 1) a_list 100 v_list]) [0, 1, 2] (by decide) rfl) hS (lv_sub hl [0, 1] rfl) ?_
  intro x2 ho H locs ls hP hD hS hl
  rw [ho] at hf
  try dsimp only at hf
  refine lv_aload_n hx hb dX4_clear_28 rfl (lv_at hl 0 rfl) ?_
  refine lv_iconst (v := tl_I (0 : Int)) hx hb dX4_clear_29 rfl ?_
  refine va_put (ci := 5) (v := .int (tl_I (0 : Int))) (ty := .int) (C := RX4) (T := TX4) (N := 3) hx hb hts in_X4 tyX4 tyX4_ok nmX4 hown hK hP hD hS 0 rfl rfl 2 (by decide) (hts _ tw_139) (fun _ h9 => h9) rfl (by decide +kernel) rfl rfl (Nat.le_of_ble_eq_true rfl) dX4_clear_30 (fun H locs hP hD hS => ?_)
  have hP : va_P D vwCl [tl_ob a_this 5 [.ref a_inside, .ref a_list, .int (tl_I (0 : Int))], tl_ia (cy 3) a_inside 100 x2, tl_ia (cy 1) a_list 100 v_list] H := hP
  have hD : va_D A [tl_ob a_this 5 [.ref a_inside, .ref a_list, .int (tl_I (0 : Int))], tl_ia (cy 3) a_inside 100 x2, tl_ia (cy 1) a_list 100 v_list] := hD
  injection hf with hf
  subst hf
  exact W.vret hx hb hr (fun t ht hW => tl_fin hAe ⟨rfl, rfl⟩ (hP.sub (ws' := [tl_ob a_this 5 [.ref a_inside, .ref a_list, .int (tl_I (0 : Int))], tl_ia (cy 3) a_inside 100 x2, tl_ia (cy 1) a_list 100 v_list]) [0, 1, 2] rfl) hK (hD.sub (ws' := [tl_ob a_this 5 [.ref a_inside, .ref a_list, .int (tl_I (0 : Int))], tl_ia (cy 3) a_inside 100 x2, tl_ia (cy 1) a_list 100 v_list]) [0, 1, 2] (by decide) rfl) hS ht hW) hS.2.2 dX4_clear_33
end
section
set_option maxHeartbeats 4000000 in
set_option maxRecDepth 100000 in
theorem kt_X5_howMany (l : Launch) (D : va_G) (cy : Nat → ClassId) (a_this a_from a_to a_forms a_rules : Nat) (v_this_length : Int) (z : Int) (hf : fX5_howMany v_this_length = some z) :
    tl_MC l D (tl_tys cy) yX5_howMany (tl_w yX5_howMany cX5_howMany 1 (some .int)) { frames := 0, cells := 0, slots := 0, locals := 0 } [.ref a_this] [tl_ob a_this 6 [.ref a_from, .ref a_to, .ref a_forms, .ref a_rules, .int (tl_I v_this_length)]] 0 0 (fun v w1 => v = some (.int (tl_I z)) ∧ w1 = [tl_ob a_this 6 [.ref a_from, .ref a_to, .ref a_forms, .ref a_rules, .int (tl_I v_this_length)]]) := by
  refine tl_ofW (cc := cX5_howMany) (maxL := 1) (ret := (some .int)) (by decide +kernel) (Nat.le_of_ble_eq_true rfl) ?_
  intro p e s m below meth c hx hb hr hml hts hown hlocks hnm A hAe hA hP hK hD hS ls hl
  have hl : lv_has ls 1 [(0, .ref a_this)] := hl
  unfold fX5_howMany at hf
  refine lv_aload_n hx hb dX5_howMany_0 rfl (lv_at hl 0 rfl) ?_
  refine va_get (ci := 6) (v := .int (tl_I v_this_length)) (C := RX5) (T := TX5) (N := 5) hx hb hts in_X5 hown hK hP 0 rfl rfl 4 (by decide) (hts _ tw_99) (fun _ h9 => h9) rfl dX5_howMany_1 ?_
  injection hf with hf
  subst hf
  exact W.iret (v := tl_I v_this_length) hx hb hr (fun t ht hW => tl_fin hAe ⟨rfl, rfl⟩ (hP.sub (ws' := [tl_ob a_this 6 [.ref a_from, .ref a_to, .ref a_forms, .ref a_rules, .int (tl_I v_this_length)]]) [0] rfl) hK (hD.sub (ws' := [tl_ob a_this 6 [.ref a_from, .ref a_to, .ref a_forms, .ref a_rules, .int (tl_I v_this_length)]]) [0] (by decide) rfl) hS ht hW) hS.2.2 dX5_howMany_4
set_option maxHeartbeats 4000000 in
set_option maxRecDepth 100000 in
theorem kt_X5_knows (l : Launch) (D : va_G) (cy : Nat → ClassId) (a_this a_from a_to a_forms a_rules : Nat) (v_this_length : Int) (p1 : Int) (z : Int) (hf : fX5_knows v_this_length p1 = some z) :
    tl_MC l D (tl_tys cy) yX5_knows (tl_w yX5_knows cX5_knows 2 (some .boolean)) { frames := 0, cells := 0, slots := 0, locals := 0 } [.ref a_this, .int (tl_I p1)] [tl_ob a_this 6 [.ref a_from, .ref a_to, .ref a_forms, .ref a_rules, .int (tl_I v_this_length)]] 0 0 (fun v w1 => v = some (.int (tl_I z)) ∧ w1 = [tl_ob a_this 6 [.ref a_from, .ref a_to, .ref a_forms, .ref a_rules, .int (tl_I v_this_length)]]) := by
  refine tl_ofW (cc := cX5_knows) (maxL := 2) (ret := (some .boolean)) (by decide +kernel) (Nat.le_of_ble_eq_true rfl) ?_
  intro p e s m below meth c hx hb hr hml hts hown hlocks hnm A hAe hA hP hK hD hS ls hl
  have hl : lv_has ls 2 [(0, .ref a_this), (1, .int (tl_I p1))] := hl
  unfold fX5_knows at hf
  refine lv_iload_n hx hb dX5_knows_0 rfl (lv_at hl 1 rfl) ?_
  refine tr_if_lt (tgt := 16) hx hb hf dX5_knows_1 (by decide) (fun hc hf => ?_) (fun hc hf => ?_)
  · refine lv_iconst (v := tl_I (0 : Int)) hx hb dX5_knows_16 rfl ?_
    injection hf with hf
    subst hf
    exact W.zret (v := tl_I (0 : Int)) hx hb hr rfl (fun t ht hW => tl_fin hAe ⟨rfl, rfl⟩ (hP.sub (ws' := [tl_ob a_this 6 [.ref a_from, .ref a_to, .ref a_forms, .ref a_rules, .int (tl_I v_this_length)]]) [0] rfl) hK (hD.sub (ws' := [tl_ob a_this 6 [.ref a_from, .ref a_to, .ref a_forms, .ref a_rules, .int (tl_I v_this_length)]]) [0] (by decide) rfl) hS ht hW) hS.2.2 dX5_knows_17
  · refine lv_iload_n hx hb dX5_knows_4 rfl (lv_at hl 1 rfl) ?_
    refine lv_aload_n hx hb dX5_knows_5 rfl (lv_at hl 0 rfl) ?_
    refine va_get (ci := 6) (v := .int (tl_I v_this_length)) (C := RX5) (T := TX5) (N := 5) hx hb hts in_X5 hown hK hP 0 rfl rfl 4 (by decide) (hts _ tw_99) (fun _ h9 => h9) rfl dX5_knows_6 ?_
    refine tr_icmp_ge (tgt := 16) hx hb hf dX5_knows_9 (by decide) (fun hc hf => ?_) (fun hc hf => ?_)
    · refine lv_iconst (v := tl_I (1 : Int)) hx hb dX5_knows_12 rfl ?_
      refine lv_goto (tgt := 17) hx hb dX5_knows_13 (by decide) ?_
      injection hf with hf
      subst hf
      exact W.zret (v := tl_I (1 : Int)) hx hb hr rfl (fun t ht hW => tl_fin hAe ⟨rfl, rfl⟩ (hP.sub (ws' := [tl_ob a_this 6 [.ref a_from, .ref a_to, .ref a_forms, .ref a_rules, .int (tl_I v_this_length)]]) [0] rfl) hK (hD.sub (ws' := [tl_ob a_this 6 [.ref a_from, .ref a_to, .ref a_forms, .ref a_rules, .int (tl_I v_this_length)]]) [0] (by decide) rfl) hS ht hW) hS.2.2 dX5_knows_17
    · refine lv_iconst (v := tl_I (0 : Int)) hx hb dX5_knows_16 rfl ?_
      injection hf with hf
      subst hf
      exact W.zret (v := tl_I (0 : Int)) hx hb hr rfl (fun t ht hW => tl_fin hAe ⟨rfl, rfl⟩ (hP.sub (ws' := [tl_ob a_this 6 [.ref a_from, .ref a_to, .ref a_forms, .ref a_rules, .int (tl_I v_this_length)]]) [0] rfl) hK (hD.sub (ws' := [tl_ob a_this 6 [.ref a_from, .ref a_to, .ref a_forms, .ref a_rules, .int (tl_I v_this_length)]]) [0] (by decide) rfl) hS ht hW) hS.2.2 dX5_knows_17
set_option maxHeartbeats 4000000 in
set_option maxRecDepth 100000 in
theorem kt_X5_tell (l : Launch) (D : va_G) (cy : Nat → ClassId) (a_this a_forms a_from a_rules a_to : Nat) (v_this_length : Int) (v_forms : Nat → Int) (v_from : Nat → Int) (v_rules : Nat → Int) (v_to : Nat → Int) (p1 : Int) (p2 : Int) (p3 : Int) (p4 : Int) (z : Int × (Nat → Int) × (Nat → Int) × (Nat → Int) × (Nat → Int) × Int) (hf : fX5_tell v_this_length v_forms v_from v_rules v_to p1 p2 p3 p4 = some z) :
    tl_MC l D (tl_tys cy) yX5_tell (tl_w yX5_tell cX5_tell 5 (some .int)) { frames := 0, cells := 0, slots := 0, locals := 0 } [.ref a_this, .int (tl_I p1), .int (tl_I p2), .int (tl_I p3), .int (tl_I p4)] [tl_ob a_this 6 [.ref a_from, .ref a_to, .ref a_forms, .ref a_rules, .int (tl_I v_this_length)], tl_ia (cy 1) a_forms 10 v_forms, tl_ia (cy 1) a_from 10 v_from, tl_ia (cy 1) a_rules 10 v_rules, tl_ia (cy 1) a_to 10 v_to] 0 0 (fun v w1 => v = some (.int (tl_I z.1)) ∧ w1 = [tl_ob a_this 6 [.ref a_from, .ref a_to, .ref a_forms, .ref a_rules, .int (tl_I z.2.2.2.2.2)], tl_ia (cy 1) a_forms 10 z.2.1, tl_ia (cy 1) a_from 10 z.2.2.1, tl_ia (cy 1) a_rules 10 z.2.2.2.1, tl_ia (cy 1) a_to 10 z.2.2.2.2.1]) := by
  refine tl_ofW (cc := cX5_tell) (maxL := 5) (ret := (some .int)) (by decide +kernel) (Nat.le_of_ble_eq_true rfl) ?_
  intro p e s m below meth c hx hb hr hml hts hown hlocks hnm A hAe hA hP hK hD hS ls hl
  have hl : lv_has ls 5 [(0, .ref a_this), (1, .int (tl_I p1)), (2, .int (tl_I p2)), (3, .int (tl_I p3)), (4, .int (tl_I p4))] := hl
  unfold fX5_tell at hf
  refine lv_aload_n hx hb dX5_tell_0 rfl (lv_at hl 0 rfl) ?_
  refine va_get (ci := 6) (v := .int (tl_I v_this_length)) (C := RX5) (T := TX5) (N := 5) hx hb hts in_X5 hown hK hP 0 rfl rfl 4 (by decide) (hts _ tw_99) (fun _ h9 => h9) rfl dX5_tell_1 ?_
  refine lv_bipush (v := tl_I (10 : Int)) hx hb dX5_tell_4 rfl ?_
  refine tr_icmp_lt (tgt := 11) hx hb hf dX5_tell_6 (by decide) (fun hc hf => ?_) (fun hc hf => ?_)
  · refine lv_aload_n hx hb dX5_tell_11 rfl (lv_at hl 0 rfl) ?_
    refine va_get (ci := 6) (v := .ref a_from) (C := RX5) (T := TX5) (N := 5) hx hb hts in_X5 hown hK hP 0 rfl rfl 0 (by decide) (hts _ tw_95) (fun _ h9 => h9) rfl dX5_tell_12 ?_
    refine lv_aload_n hx hb dX5_tell_15 rfl (lv_at hl 0 rfl) ?_
    refine va_get (ci := 6) (v := .int (tl_I v_this_length)) (C := RX5) (T := TX5) (N := 5) hx hb hts in_X5 hown hK hP 0 rfl rfl 4 (by decide) (hts _ tw_99) (fun _ h9 => h9) rfl dX5_tell_16 ?_
    refine lv_iload_n hx hb dX5_tell_19 rfl (lv_at hl 1 rfl) ?_
    refine tr_iast hx hb hf hK hP hD hS 2 1 rfl rfl (by decide) dX5_tell_20 (fun hf H locs hP hD hS => ?_)
    have hP : va_P D vwCl [tl_ob a_this 6 [.ref a_from, .ref a_to, .ref a_forms, .ref a_rules, .int (tl_I v_this_length)], tl_ia (cy 1) a_forms 10 v_forms, tl_ia (cy 1) a_from 10 (va_up v_from v_this_length.toNat p1), tl_ia (cy 1) a_rules 10 v_rules, tl_ia (cy 1) a_to 10 v_to] H := hP
    have hD : va_D A [tl_ob a_this 6 [.ref a_from, .ref a_to, .ref a_forms, .ref a_rules, .int (tl_I v_this_length)], tl_ia (cy 1) a_forms 10 v_forms, tl_ia (cy 1) a_from 10 (va_up v_from v_this_length.toNat p1), tl_ia (cy 1) a_rules 10 v_rules, tl_ia (cy 1) a_to 10 v_to] := hD
    refine lv_aload_n hx hb dX5_tell_21 rfl (lv_at hl 0 rfl) ?_
    refine va_get (ci := 6) (v := .ref a_to) (C := RX5) (T := TX5) (N := 5) hx hb hts in_X5 hown hK hP 0 rfl rfl 1 (by decide) (hts _ tw_96) (fun _ h9 => h9) rfl dX5_tell_22 ?_
    refine lv_aload_n hx hb dX5_tell_25 rfl (lv_at hl 0 rfl) ?_
    refine va_get (ci := 6) (v := .int (tl_I v_this_length)) (C := RX5) (T := TX5) (N := 5) hx hb hts in_X5 hown hK hP 0 rfl rfl 4 (by decide) (hts _ tw_99) (fun _ h9 => h9) rfl dX5_tell_26 ?_
    refine lv_iload_n hx hb dX5_tell_29 rfl (lv_at hl 2 rfl) ?_
    refine tr_iast hx hb hf hK hP hD hS 4 1 rfl rfl (by decide) dX5_tell_30 (fun hf H locs hP hD hS => ?_)
    have hP : va_P D vwCl [tl_ob a_this 6 [.ref a_from, .ref a_to, .ref a_forms, .ref a_rules, .int (tl_I v_this_length)], tl_ia (cy 1) a_forms 10 v_forms, tl_ia (cy 1) a_from 10 (va_up v_from v_this_length.toNat p1), tl_ia (cy 1) a_rules 10 v_rules, tl_ia (cy 1) a_to 10 (va_up v_to v_this_length.toNat p2)] H := hP
    have hD : va_D A [tl_ob a_this 6 [.ref a_from, .ref a_to, .ref a_forms, .ref a_rules, .int (tl_I v_this_length)], tl_ia (cy 1) a_forms 10 v_forms, tl_ia (cy 1) a_from 10 (va_up v_from v_this_length.toNat p1), tl_ia (cy 1) a_rules 10 v_rules, tl_ia (cy 1) a_to 10 (va_up v_to v_this_length.toNat p2)] := hD
    refine lv_aload_n hx hb dX5_tell_31 rfl (lv_at hl 0 rfl) ?_
    refine va_get (ci := 6) (v := .ref a_forms) (C := RX5) (T := TX5) (N := 5) hx hb hts in_X5 hown hK hP 0 rfl rfl 2 (by decide) (hts _ tw_97) (fun _ h9 => h9) rfl dX5_tell_32 ?_
    refine lv_aload_n hx hb dX5_tell_35 rfl (lv_at hl 0 rfl) ?_
    refine va_get (ci := 6) (v := .int (tl_I v_this_length)) (C := RX5) (T := TX5) (N := 5) hx hb hts in_X5 hown hK hP 0 rfl rfl 4 (by decide) (hts _ tw_99) (fun _ h9 => h9) rfl dX5_tell_36 ?_
    refine lv_iload_n hx hb dX5_tell_39 rfl (lv_at hl 3 rfl) ?_
    refine tr_iast hx hb hf hK hP hD hS 1 1 rfl rfl (by decide) dX5_tell_40 (fun hf H locs hP hD hS => ?_)
    have hP : va_P D vwCl [tl_ob a_this 6 [.ref a_from, .ref a_to, .ref a_forms, .ref a_rules, .int (tl_I v_this_length)], tl_ia (cy 1) a_forms 10 (va_up v_forms v_this_length.toNat p3), tl_ia (cy 1) a_from 10 (va_up v_from v_this_length.toNat p1), tl_ia (cy 1) a_rules 10 v_rules, tl_ia (cy 1) a_to 10 (va_up v_to v_this_length.toNat p2)] H := hP
    have hD : va_D A [tl_ob a_this 6 [.ref a_from, .ref a_to, .ref a_forms, .ref a_rules, .int (tl_I v_this_length)], tl_ia (cy 1) a_forms 10 (va_up v_forms v_this_length.toNat p3), tl_ia (cy 1) a_from 10 (va_up v_from v_this_length.toNat p1), tl_ia (cy 1) a_rules 10 v_rules, tl_ia (cy 1) a_to 10 (va_up v_to v_this_length.toNat p2)] := hD
    refine lv_aload_n hx hb dX5_tell_41 rfl (lv_at hl 0 rfl) ?_
    refine va_get (ci := 6) (v := .ref a_rules) (C := RX5) (T := TX5) (N := 5) hx hb hts in_X5 hown hK hP 0 rfl rfl 3 (by decide) (hts _ tw_98) (fun _ h9 => h9) rfl dX5_tell_42 ?_
    refine lv_aload_n hx hb dX5_tell_45 rfl (lv_at hl 0 rfl) ?_
    refine va_get (ci := 6) (v := .int (tl_I v_this_length)) (C := RX5) (T := TX5) (N := 5) hx hb hts in_X5 hown hK hP 0 rfl rfl 4 (by decide) (hts _ tw_99) (fun _ h9 => h9) rfl dX5_tell_46 ?_
    refine lv_iload hx hb dX5_tell_49 (lv_at hl 4 rfl) ?_
    refine tr_iast hx hb hf hK hP hD hS 3 1 rfl rfl (by decide) dX5_tell_51 (fun hf H locs hP hD hS => ?_)
    have hP : va_P D vwCl [tl_ob a_this 6 [.ref a_from, .ref a_to, .ref a_forms, .ref a_rules, .int (tl_I v_this_length)], tl_ia (cy 1) a_forms 10 (va_up v_forms v_this_length.toNat p3), tl_ia (cy 1) a_from 10 (va_up v_from v_this_length.toNat p1), tl_ia (cy 1) a_rules 10 (va_up v_rules v_this_length.toNat p4), tl_ia (cy 1) a_to 10 (va_up v_to v_this_length.toNat p2)] H := hP
    have hD : va_D A [tl_ob a_this 6 [.ref a_from, .ref a_to, .ref a_forms, .ref a_rules, .int (tl_I v_this_length)], tl_ia (cy 1) a_forms 10 (va_up v_forms v_this_length.toNat p3), tl_ia (cy 1) a_from 10 (va_up v_from v_this_length.toNat p1), tl_ia (cy 1) a_rules 10 (va_up v_rules v_this_length.toNat p4), tl_ia (cy 1) a_to 10 (va_up v_to v_this_length.toNat p2)] := hD
    refine lv_aload_n hx hb dX5_tell_52 rfl (lv_at hl 0 rfl) ?_
    refine lv_dup hx hb dX5_tell_53 rfl ?_
    refine va_get (ci := 6) (v := .int (tl_I v_this_length)) (C := RX5) (T := TX5) (N := 5) hx hb hts in_X5 hown hK hP 0 rfl rfl 4 (by decide) (hts _ tw_99) (fun _ h9 => h9) rfl dX5_tell_54 ?_
    refine lv_iconst (v := tl_I (1 : Int)) hx hb dX5_tell_57 rfl ?_
    refine tr_iadd hx hb dX5_tell_58 ?_
    refine va_put (ci := 6) (v := .int (tl_I (v_this_length + (1 : Int)))) (ty := .int) (C := RX5) (T := TX5) (N := 5) hx hb hts in_X5 tyX5 tyX5_ok nmX5 hown hK hP hD hS 0 rfl rfl 4 (by decide) (hts _ tw_99) (fun _ h9 => h9) rfl (by decide +kernel) rfl rfl (Nat.le_of_ble_eq_true rfl) dX5_tell_59 (fun H locs hP hD hS => ?_)
    have hP : va_P D vwCl [tl_ob a_this 6 [.ref a_from, .ref a_to, .ref a_forms, .ref a_rules, .int (tl_I (v_this_length + (1 : Int)))], tl_ia (cy 1) a_forms 10 (va_up v_forms v_this_length.toNat p3), tl_ia (cy 1) a_from 10 (va_up v_from v_this_length.toNat p1), tl_ia (cy 1) a_rules 10 (va_up v_rules v_this_length.toNat p4), tl_ia (cy 1) a_to 10 (va_up v_to v_this_length.toNat p2)] H := hP
    have hD : va_D A [tl_ob a_this 6 [.ref a_from, .ref a_to, .ref a_forms, .ref a_rules, .int (tl_I (v_this_length + (1 : Int)))], tl_ia (cy 1) a_forms 10 (va_up v_forms v_this_length.toNat p3), tl_ia (cy 1) a_from 10 (va_up v_from v_this_length.toNat p1), tl_ia (cy 1) a_rules 10 (va_up v_rules v_this_length.toNat p4), tl_ia (cy 1) a_to 10 (va_up v_to v_this_length.toNat p2)] := hD
    refine lv_aload_n hx hb dX5_tell_62 rfl (lv_at hl 0 rfl) ?_
    refine va_get (ci := 6) (v := .int (tl_I (v_this_length + (1 : Int)))) (C := RX5) (T := TX5) (N := 5) hx hb hts in_X5 hown hK hP 0 rfl rfl 4 (by decide) (hts _ tw_99) (fun _ h9 => h9) rfl dX5_tell_63 ?_
    refine lv_iconst (v := tl_I (1 : Int)) hx hb dX5_tell_66 rfl ?_
    refine tr_isub hx hb dX5_tell_67 ?_
    injection hf with hf
    subst hf
    exact W.iret (v := tl_I ((v_this_length + (1 : Int)) - (1 : Int))) hx hb hr (fun t ht hW => tl_fin hAe ⟨rfl, rfl⟩ (hP.sub (ws' := [tl_ob a_this 6 [.ref a_from, .ref a_to, .ref a_forms, .ref a_rules, .int (tl_I (v_this_length + (1 : Int)))], tl_ia (cy 1) a_forms 10 (va_up v_forms v_this_length.toNat p3), tl_ia (cy 1) a_from 10 (va_up v_from v_this_length.toNat p1), tl_ia (cy 1) a_rules 10 (va_up v_rules v_this_length.toNat p4), tl_ia (cy 1) a_to 10 (va_up v_to v_this_length.toNat p2)]) [0, 1, 2, 3, 4] rfl) hK (hD.sub (ws' := [tl_ob a_this 6 [.ref a_from, .ref a_to, .ref a_forms, .ref a_rules, .int (tl_I (v_this_length + (1 : Int)))], tl_ia (cy 1) a_forms 10 (va_up v_forms v_this_length.toNat p3), tl_ia (cy 1) a_from 10 (va_up v_from v_this_length.toNat p1), tl_ia (cy 1) a_rules 10 (va_up v_rules v_this_length.toNat p4), tl_ia (cy 1) a_to 10 (va_up v_to v_this_length.toNat p2)]) [0, 1, 2, 3, 4] (by decide) rfl) hS ht hW) hS.2.2 dX5_tell_68
  · refine lv_iconst (v := tl_I (-1 : Int)) hx hb dX5_tell_9 rfl ?_
    injection hf with hf
    subst hf
    exact W.iret (v := tl_I (-1 : Int)) hx hb hr (fun t ht hW => tl_fin hAe ⟨rfl, rfl⟩ (hP.sub (ws' := [tl_ob a_this 6 [.ref a_from, .ref a_to, .ref a_forms, .ref a_rules, .int (tl_I v_this_length)], tl_ia (cy 1) a_forms 10 v_forms, tl_ia (cy 1) a_from 10 v_from, tl_ia (cy 1) a_rules 10 v_rules, tl_ia (cy 1) a_to 10 v_to]) [0, 1, 2, 3, 4] rfl) hK (hD.sub (ws' := [tl_ob a_this 6 [.ref a_from, .ref a_to, .ref a_forms, .ref a_rules, .int (tl_I v_this_length)], tl_ia (cy 1) a_forms 10 v_forms, tl_ia (cy 1) a_from 10 v_from, tl_ia (cy 1) a_rules 10 v_rules, tl_ia (cy 1) a_to 10 v_to]) [0, 1, 2, 3, 4] (by decide) rfl) hS ht hW) hS.2.2 dX5_tell_10
set_option maxHeartbeats 4000000 in
set_option maxRecDepth 100000 in
theorem kt_X5_fromKind (l : Launch) (D : va_G) (cy : Nat → ClassId) (a_this a_from a_to a_forms a_rules : Nat) (v_this_length : Int) (v_from : Nat → Int) (p1 : Int) (z : Int) (hf : fX5_fromKind v_this_length v_from p1 = some z) :
    tl_MC l D (tl_tys cy) yX5_fromKind (tl_w yX5_fromKind cX5_fromKind 2 (some .int)) { frames := 1, cells := 0, slots := 0, locals := 21 } [.ref a_this, .int (tl_I p1)] [tl_ob a_this 6 [.ref a_from, .ref a_to, .ref a_forms, .ref a_rules, .int (tl_I v_this_length)], tl_ia (cy 1) a_from 10 v_from] 0 0 (fun v w1 => v = some (.int (tl_I z)) ∧ w1 = [tl_ob a_this 6 [.ref a_from, .ref a_to, .ref a_forms, .ref a_rules, .int (tl_I v_this_length)], tl_ia (cy 1) a_from 10 v_from]) := by
  refine tl_ofW (cc := cX5_fromKind) (maxL := 2) (ret := (some .int)) (by decide +kernel) (Nat.le_of_ble_eq_true rfl) ?_
  intro p e s m below meth c hx hb hr hml hts hown hlocks hnm A hAe hA hP hK hD hS ls hl
  have hl : lv_has ls 2 [(0, .ref a_this), (1, .int (tl_I p1))] := hl
  unfold fX5_fromKind at hf
  refine lv_aload_n hx hb dX5_fromKind_0 rfl (lv_at hl 0 rfl) ?_
  refine lv_iload_n hx hb dX5_fromKind_1 rfl (lv_at hl 1 rfl) ?_
  obtain ⟨z1, hz, hf⟩ := tl_bs hf
  refine tl_callV0 (As := [.int (tl_I p1)]) (rest := []) (wr := [tl_ia (cy 1) a_from 10 v_from]) ⟨hx, hb, hml, hown, hts⟩ (kt_X5_knows l D cy a_this a_from a_to a_forms a_rules v_this_length p1 z1 hz) (cwV 1 hts tg_X5_28 rfl rfl rfl td_X5_knows ⟨by decide, by decide⟩) hK hP hD hS hA [0] [1] rfl rfl rfl rfl (by decide) 0 6 rfl rfl rfl rfl hl.1 rfl (Nat.le_of_ble_eq_true rfl) dX5_fromKind_2 ⟨by decide, by decide⟩ (fun v w1 H locs hp hP hD hS => ?_)
  obtain ⟨rfl, rfl⟩ := hp
  have hP : va_P D vwCl [tl_ia (cy 1) a_from 10 v_from, tl_ob a_this 6 [.ref a_from, .ref a_to, .ref a_forms, .ref a_rules, .int (tl_I v_this_length)]] H := hP
  have hD : va_D A [tl_ia (cy 1) a_from 10 v_from, tl_ob a_this 6 [.ref a_from, .ref a_to, .ref a_forms, .ref a_rules, .int (tl_I v_this_length)]] := hD
  refine W.eq (g2 := F0 m 5 ls [.int (tl_I z1)]) rfl ?_
  refine tr_if_eq (tgt := 17) hx hb hf dX5_fromKind_5 (by decide) (fun hc hf => ?_) (fun hc hf => ?_)
  · refine lv_iconst (v := tl_I (-1 : Int)) hx hb dX5_fromKind_17 rfl ?_
    injection hf with hf
    subst hf
    exact W.iret (v := tl_I (-1 : Int)) hx hb hr (fun t ht hW => tl_fin hAe ⟨rfl, rfl⟩ (hP.sub (ws' := [tl_ob a_this 6 [.ref a_from, .ref a_to, .ref a_forms, .ref a_rules, .int (tl_I v_this_length)], tl_ia (cy 1) a_from 10 v_from]) [1, 0] rfl) hK (hD.sub (ws' := [tl_ob a_this 6 [.ref a_from, .ref a_to, .ref a_forms, .ref a_rules, .int (tl_I v_this_length)], tl_ia (cy 1) a_from 10 v_from]) [1, 0] (by decide) rfl) hS ht hW) hS.2.2 dX5_fromKind_18
  · refine lv_aload_n hx hb dX5_fromKind_8 rfl (lv_at hl 0 rfl) ?_
    refine va_get (ci := 6) (v := .ref a_from) (C := RX5) (T := TX5) (N := 5) hx hb hts in_X5 hown hK hP 1 rfl rfl 0 (by decide) (hts _ tw_95) (fun _ h9 => h9) rfl dX5_fromKind_9 ?_
    refine lv_iload_n hx hb dX5_fromKind_12 rfl (lv_at hl 1 rfl) ?_
    refine tr_iald hx hb hf hK hP 0 1 rfl rfl (by decide) dX5_fromKind_13 (fun hf => ?_)
    refine lv_goto (tgt := 18) hx hb dX5_fromKind_14 (by decide) ?_
    injection hf with hf
    subst hf
    exact W.iret (v := tl_I (v_from p1.toNat)) hx hb hr (fun t ht hW => tl_fin hAe ⟨rfl, rfl⟩ (hP.sub (ws' := [tl_ob a_this 6 [.ref a_from, .ref a_to, .ref a_forms, .ref a_rules, .int (tl_I v_this_length)], tl_ia (cy 1) a_from 10 v_from]) [1, 0] rfl) hK (hD.sub (ws' := [tl_ob a_this 6 [.ref a_from, .ref a_to, .ref a_forms, .ref a_rules, .int (tl_I v_this_length)], tl_ia (cy 1) a_from 10 v_from]) [1, 0] (by decide) rfl) hS ht hW) hS.2.2 dX5_fromKind_18
set_option maxHeartbeats 4000000 in
set_option maxRecDepth 100000 in
theorem kt_X5_toKind (l : Launch) (D : va_G) (cy : Nat → ClassId) (a_this a_to a_from a_forms a_rules : Nat) (v_this_length : Int) (v_to : Nat → Int) (p1 : Int) (z : Int) (hf : fX5_toKind v_this_length v_to p1 = some z) :
    tl_MC l D (tl_tys cy) yX5_toKind (tl_w yX5_toKind cX5_toKind 2 (some .int)) { frames := 1, cells := 0, slots := 0, locals := 21 } [.ref a_this, .int (tl_I p1)] [tl_ob a_this 6 [.ref a_from, .ref a_to, .ref a_forms, .ref a_rules, .int (tl_I v_this_length)], tl_ia (cy 1) a_to 10 v_to] 0 0 (fun v w1 => v = some (.int (tl_I z)) ∧ w1 = [tl_ob a_this 6 [.ref a_from, .ref a_to, .ref a_forms, .ref a_rules, .int (tl_I v_this_length)], tl_ia (cy 1) a_to 10 v_to]) := by
  refine tl_ofW (cc := cX5_toKind) (maxL := 2) (ret := (some .int)) (by decide +kernel) (Nat.le_of_ble_eq_true rfl) ?_
  intro p e s m below meth c hx hb hr hml hts hown hlocks hnm A hAe hA hP hK hD hS ls hl
  have hl : lv_has ls 2 [(0, .ref a_this), (1, .int (tl_I p1))] := hl
  unfold fX5_toKind at hf
  refine lv_aload_n hx hb dX5_toKind_0 rfl (lv_at hl 0 rfl) ?_
  refine lv_iload_n hx hb dX5_toKind_1 rfl (lv_at hl 1 rfl) ?_
  obtain ⟨z1, hz, hf⟩ := tl_bs hf
  refine tl_callV0 (As := [.int (tl_I p1)]) (rest := []) (wr := [tl_ia (cy 1) a_to 10 v_to]) ⟨hx, hb, hml, hown, hts⟩ (kt_X5_knows l D cy a_this a_from a_to a_forms a_rules v_this_length p1 z1 hz) (cwV 1 hts tg_X5_28 rfl rfl rfl td_X5_knows ⟨by decide, by decide⟩) hK hP hD hS hA [0] [1] rfl rfl rfl rfl (by decide) 0 6 rfl rfl rfl rfl hl.1 rfl (Nat.le_of_ble_eq_true rfl) dX5_toKind_2 ⟨by decide, by decide⟩ (fun v w1 H locs hp hP hD hS => ?_)
  obtain ⟨rfl, rfl⟩ := hp
  have hP : va_P D vwCl [tl_ia (cy 1) a_to 10 v_to, tl_ob a_this 6 [.ref a_from, .ref a_to, .ref a_forms, .ref a_rules, .int (tl_I v_this_length)]] H := hP
  have hD : va_D A [tl_ia (cy 1) a_to 10 v_to, tl_ob a_this 6 [.ref a_from, .ref a_to, .ref a_forms, .ref a_rules, .int (tl_I v_this_length)]] := hD
  refine W.eq (g2 := F0 m 5 ls [.int (tl_I z1)]) rfl ?_
  refine tr_if_eq (tgt := 17) hx hb hf dX5_toKind_5 (by decide) (fun hc hf => ?_) (fun hc hf => ?_)
  · refine lv_iconst (v := tl_I (-1 : Int)) hx hb dX5_toKind_17 rfl ?_
    injection hf with hf
    subst hf
    exact W.iret (v := tl_I (-1 : Int)) hx hb hr (fun t ht hW => tl_fin hAe ⟨rfl, rfl⟩ (hP.sub (ws' := [tl_ob a_this 6 [.ref a_from, .ref a_to, .ref a_forms, .ref a_rules, .int (tl_I v_this_length)], tl_ia (cy 1) a_to 10 v_to]) [1, 0] rfl) hK (hD.sub (ws' := [tl_ob a_this 6 [.ref a_from, .ref a_to, .ref a_forms, .ref a_rules, .int (tl_I v_this_length)], tl_ia (cy 1) a_to 10 v_to]) [1, 0] (by decide) rfl) hS ht hW) hS.2.2 dX5_toKind_18
  · refine lv_aload_n hx hb dX5_toKind_8 rfl (lv_at hl 0 rfl) ?_
    refine va_get (ci := 6) (v := .ref a_to) (C := RX5) (T := TX5) (N := 5) hx hb hts in_X5 hown hK hP 1 rfl rfl 1 (by decide) (hts _ tw_96) (fun _ h9 => h9) rfl dX5_toKind_9 ?_
    refine lv_iload_n hx hb dX5_toKind_12 rfl (lv_at hl 1 rfl) ?_
    refine tr_iald hx hb hf hK hP 0 1 rfl rfl (by decide) dX5_toKind_13 (fun hf => ?_)
    refine lv_goto (tgt := 18) hx hb dX5_toKind_14 (by decide) ?_
    injection hf with hf
    subst hf
    exact W.iret (v := tl_I (v_to p1.toNat)) hx hb hr (fun t ht hW => tl_fin hAe ⟨rfl, rfl⟩ (hP.sub (ws' := [tl_ob a_this 6 [.ref a_from, .ref a_to, .ref a_forms, .ref a_rules, .int (tl_I v_this_length)], tl_ia (cy 1) a_to 10 v_to]) [1, 0] rfl) hK (hD.sub (ws' := [tl_ob a_this 6 [.ref a_from, .ref a_to, .ref a_forms, .ref a_rules, .int (tl_I v_this_length)], tl_ia (cy 1) a_to 10 v_to]) [1, 0] (by decide) rfl) hS ht hW) hS.2.2 dX5_toKind_18
set_option maxHeartbeats 4000000 in
set_option maxRecDepth 100000 in
theorem kt_X5_hasForm (l : Launch) (D : va_G) (cy : Nat → ClassId) (a_this a_forms a_from a_to a_rules : Nat) (v_this_length : Int) (v_forms : Nat → Int) (p1 : Int) (p2 : Int) (z : Int) (hf : fX5_hasForm v_this_length v_forms p1 p2 = some z) :
    tl_MC l D (tl_tys cy) yX5_hasForm (tl_w yX5_hasForm cX5_hasForm 3 (some .boolean)) { frames := 1, cells := 0, slots := 0, locals := 21 } [.ref a_this, .int (tl_I p1), .int (tl_I p2)] [tl_ob a_this 6 [.ref a_from, .ref a_to, .ref a_forms, .ref a_rules, .int (tl_I v_this_length)], tl_ia (cy 1) a_forms 10 v_forms] 0 0 (fun v w1 => v = some (.int (tl_I z)) ∧ w1 = [tl_ob a_this 6 [.ref a_from, .ref a_to, .ref a_forms, .ref a_rules, .int (tl_I v_this_length)], tl_ia (cy 1) a_forms 10 v_forms]) := by
  refine tl_ofW (cc := cX5_hasForm) (maxL := 3) (ret := (some .boolean)) (by decide +kernel) (Nat.le_of_ble_eq_true rfl) ?_
  intro p e s m below meth c hx hb hr hml hts hown hlocks hnm A hAe hA hP hK hD hS ls hl
  have hl : lv_has ls 3 [(0, .ref a_this), (1, .int (tl_I p1)), (2, .int (tl_I p2))] := hl
  unfold fX5_hasForm at hf
  refine lv_aload_n hx hb dX5_hasForm_0 rfl (lv_at hl 0 rfl) ?_
  refine lv_iload_n hx hb dX5_hasForm_1 rfl (lv_at hl 1 rfl) ?_
  obtain ⟨z1, hz, hf⟩ := tl_bs hf
  refine tl_callV0 (As := [.int (tl_I p1)]) (rest := []) (wr := [tl_ia (cy 1) a_forms 10 v_forms]) ⟨hx, hb, hml, hown, hts⟩ (kt_X5_knows l D cy a_this a_from a_to a_forms a_rules v_this_length p1 z1 hz) (cwV 1 hts tg_X5_28 rfl rfl rfl td_X5_knows ⟨by decide, by decide⟩) hK hP hD hS hA [0] [1] rfl rfl rfl rfl (by decide) 0 6 rfl rfl rfl rfl hl.1 rfl (Nat.le_of_ble_eq_true rfl) dX5_hasForm_2 ⟨by decide, by decide⟩ (fun v w1 H locs hp hP hD hS => ?_)
  obtain ⟨rfl, rfl⟩ := hp
  have hP : va_P D vwCl [tl_ia (cy 1) a_forms 10 v_forms, tl_ob a_this 6 [.ref a_from, .ref a_to, .ref a_forms, .ref a_rules, .int (tl_I v_this_length)]] H := hP
  have hD : va_D A [tl_ia (cy 1) a_forms 10 v_forms, tl_ob a_this 6 [.ref a_from, .ref a_to, .ref a_forms, .ref a_rules, .int (tl_I v_this_length)]] := hD
  refine W.eq (g2 := F0 m 5 ls [.int (tl_I z1)]) rfl ?_
  refine tr_if_eq (tgt := 22) hx hb hf dX5_hasForm_5 (by decide) (fun hc hf => ?_) (fun hc hf => ?_)
  · refine lv_iconst (v := tl_I (0 : Int)) hx hb dX5_hasForm_22 rfl ?_
    injection hf with hf
    subst hf
    exact W.zret (v := tl_I (0 : Int)) hx hb hr rfl (fun t ht hW => tl_fin hAe ⟨rfl, rfl⟩ (hP.sub (ws' := [tl_ob a_this 6 [.ref a_from, .ref a_to, .ref a_forms, .ref a_rules, .int (tl_I v_this_length)], tl_ia (cy 1) a_forms 10 v_forms]) [1, 0] rfl) hK (hD.sub (ws' := [tl_ob a_this 6 [.ref a_from, .ref a_to, .ref a_forms, .ref a_rules, .int (tl_I v_this_length)], tl_ia (cy 1) a_forms 10 v_forms]) [1, 0] (by decide) rfl) hS ht hW) hS.2.2 dX5_hasForm_23
  · refine lv_aload_n hx hb dX5_hasForm_8 rfl (lv_at hl 0 rfl) ?_
    refine va_get (ci := 6) (v := .ref a_forms) (C := RX5) (T := TX5) (N := 5) hx hb hts in_X5 hown hK hP 1 rfl rfl 2 (by decide) (hts _ tw_97) (fun _ h9 => h9) rfl dX5_hasForm_9 ?_
    refine lv_iload_n hx hb dX5_hasForm_12 rfl (lv_at hl 1 rfl) ?_
    refine tr_iald hx hb hf hK hP 0 1 rfl rfl (by decide) dX5_hasForm_13 (fun hf => ?_)
    refine lv_iload_n hx hb dX5_hasForm_14 rfl (lv_at hl 2 rfl) ?_
    refine tr_icmp_ne (tgt := 22) hx hb hf dX5_hasForm_15 (by decide) (fun hc hf => ?_) (fun hc hf => ?_)
    · refine lv_iconst (v := tl_I (1 : Int)) hx hb dX5_hasForm_18 rfl ?_
      refine lv_goto (tgt := 23) hx hb dX5_hasForm_19 (by decide) ?_
      injection hf with hf
      subst hf
      exact W.zret (v := tl_I (1 : Int)) hx hb hr rfl (fun t ht hW => tl_fin hAe ⟨rfl, rfl⟩ (hP.sub (ws' := [tl_ob a_this 6 [.ref a_from, .ref a_to, .ref a_forms, .ref a_rules, .int (tl_I v_this_length)], tl_ia (cy 1) a_forms 10 v_forms]) [1, 0] rfl) hK (hD.sub (ws' := [tl_ob a_this 6 [.ref a_from, .ref a_to, .ref a_forms, .ref a_rules, .int (tl_I v_this_length)], tl_ia (cy 1) a_forms 10 v_forms]) [1, 0] (by decide) rfl) hS ht hW) hS.2.2 dX5_hasForm_23
    · refine lv_iconst (v := tl_I (0 : Int)) hx hb dX5_hasForm_22 rfl ?_
      injection hf with hf
      subst hf
      exact W.zret (v := tl_I (0 : Int)) hx hb hr rfl (fun t ht hW => tl_fin hAe ⟨rfl, rfl⟩ (hP.sub (ws' := [tl_ob a_this 6 [.ref a_from, .ref a_to, .ref a_forms, .ref a_rules, .int (tl_I v_this_length)], tl_ia (cy 1) a_forms 10 v_forms]) [1, 0] rfl) hK (hD.sub (ws' := [tl_ob a_this 6 [.ref a_from, .ref a_to, .ref a_forms, .ref a_rules, .int (tl_I v_this_length)], tl_ia (cy 1) a_forms 10 v_forms]) [1, 0] (by decide) rfl) hS ht hW) hS.2.2 dX5_hasForm_23
set_option maxHeartbeats 4000000 in
set_option maxRecDepth 100000 in
theorem kt_X5_hasRule (l : Launch) (D : va_G) (cy : Nat → ClassId) (a_this a_rules a_from a_to a_forms : Nat) (v_this_length : Int) (v_rules : Nat → Int) (p1 : Int) (p2 : Int) (z : Int) (hf : fX5_hasRule v_this_length v_rules p1 p2 = some z) :
    tl_MC l D (tl_tys cy) yX5_hasRule (tl_w yX5_hasRule cX5_hasRule 3 (some .boolean)) { frames := 1, cells := 0, slots := 0, locals := 21 } [.ref a_this, .int (tl_I p1), .int (tl_I p2)] [tl_ob a_this 6 [.ref a_from, .ref a_to, .ref a_forms, .ref a_rules, .int (tl_I v_this_length)], tl_ia (cy 1) a_rules 10 v_rules] 0 0 (fun v w1 => v = some (.int (tl_I z)) ∧ w1 = [tl_ob a_this 6 [.ref a_from, .ref a_to, .ref a_forms, .ref a_rules, .int (tl_I v_this_length)], tl_ia (cy 1) a_rules 10 v_rules]) := by
  refine tl_ofW (cc := cX5_hasRule) (maxL := 3) (ret := (some .boolean)) (by decide +kernel) (Nat.le_of_ble_eq_true rfl) ?_
  intro p e s m below meth c hx hb hr hml hts hown hlocks hnm A hAe hA hP hK hD hS ls hl
  have hl : lv_has ls 3 [(0, .ref a_this), (1, .int (tl_I p1)), (2, .int (tl_I p2))] := hl
  unfold fX5_hasRule at hf
  refine lv_aload_n hx hb dX5_hasRule_0 rfl (lv_at hl 0 rfl) ?_
  refine lv_iload_n hx hb dX5_hasRule_1 rfl (lv_at hl 1 rfl) ?_
  obtain ⟨z1, hz, hf⟩ := tl_bs hf
  refine tl_callV0 (As := [.int (tl_I p1)]) (rest := []) (wr := [tl_ia (cy 1) a_rules 10 v_rules]) ⟨hx, hb, hml, hown, hts⟩ (kt_X5_knows l D cy a_this a_from a_to a_forms a_rules v_this_length p1 z1 hz) (cwV 1 hts tg_X5_28 rfl rfl rfl td_X5_knows ⟨by decide, by decide⟩) hK hP hD hS hA [0] [1] rfl rfl rfl rfl (by decide) 0 6 rfl rfl rfl rfl hl.1 rfl (Nat.le_of_ble_eq_true rfl) dX5_hasRule_2 ⟨by decide, by decide⟩ (fun v w1 H locs hp hP hD hS => ?_)
  obtain ⟨rfl, rfl⟩ := hp
  have hP : va_P D vwCl [tl_ia (cy 1) a_rules 10 v_rules, tl_ob a_this 6 [.ref a_from, .ref a_to, .ref a_forms, .ref a_rules, .int (tl_I v_this_length)]] H := hP
  have hD : va_D A [tl_ia (cy 1) a_rules 10 v_rules, tl_ob a_this 6 [.ref a_from, .ref a_to, .ref a_forms, .ref a_rules, .int (tl_I v_this_length)]] := hD
  refine W.eq (g2 := F0 m 5 ls [.int (tl_I z1)]) rfl ?_
  refine tr_if_eq (tgt := 22) hx hb hf dX5_hasRule_5 (by decide) (fun hc hf => ?_) (fun hc hf => ?_)
  · refine lv_iconst (v := tl_I (0 : Int)) hx hb dX5_hasRule_22 rfl ?_
    injection hf with hf
    subst hf
    exact W.zret (v := tl_I (0 : Int)) hx hb hr rfl (fun t ht hW => tl_fin hAe ⟨rfl, rfl⟩ (hP.sub (ws' := [tl_ob a_this 6 [.ref a_from, .ref a_to, .ref a_forms, .ref a_rules, .int (tl_I v_this_length)], tl_ia (cy 1) a_rules 10 v_rules]) [1, 0] rfl) hK (hD.sub (ws' := [tl_ob a_this 6 [.ref a_from, .ref a_to, .ref a_forms, .ref a_rules, .int (tl_I v_this_length)], tl_ia (cy 1) a_rules 10 v_rules]) [1, 0] (by decide) rfl) hS ht hW) hS.2.2 dX5_hasRule_23
  · refine lv_aload_n hx hb dX5_hasRule_8 rfl (lv_at hl 0 rfl) ?_
    refine va_get (ci := 6) (v := .ref a_rules) (C := RX5) (T := TX5) (N := 5) hx hb hts in_X5 hown hK hP 1 rfl rfl 3 (by decide) (hts _ tw_98) (fun _ h9 => h9) rfl dX5_hasRule_9 ?_
    refine lv_iload_n hx hb dX5_hasRule_12 rfl (lv_at hl 1 rfl) ?_
    refine tr_iald hx hb hf hK hP 0 1 rfl rfl (by decide) dX5_hasRule_13 (fun hf => ?_)
    refine lv_iload_n hx hb dX5_hasRule_14 rfl (lv_at hl 2 rfl) ?_
    refine tr_icmp_ne (tgt := 22) hx hb hf dX5_hasRule_15 (by decide) (fun hc hf => ?_) (fun hc hf => ?_)
    · refine lv_iconst (v := tl_I (1 : Int)) hx hb dX5_hasRule_18 rfl ?_
      refine lv_goto (tgt := 23) hx hb dX5_hasRule_19 (by decide) ?_
      injection hf with hf
      subst hf
      exact W.zret (v := tl_I (1 : Int)) hx hb hr rfl (fun t ht hW => tl_fin hAe ⟨rfl, rfl⟩ (hP.sub (ws' := [tl_ob a_this 6 [.ref a_from, .ref a_to, .ref a_forms, .ref a_rules, .int (tl_I v_this_length)], tl_ia (cy 1) a_rules 10 v_rules]) [1, 0] rfl) hK (hD.sub (ws' := [tl_ob a_this 6 [.ref a_from, .ref a_to, .ref a_forms, .ref a_rules, .int (tl_I v_this_length)], tl_ia (cy 1) a_rules 10 v_rules]) [1, 0] (by decide) rfl) hS ht hW) hS.2.2 dX5_hasRule_23
    · refine lv_iconst (v := tl_I (0 : Int)) hx hb dX5_hasRule_22 rfl ?_
      injection hf with hf
      subst hf
      exact W.zret (v := tl_I (0 : Int)) hx hb hr rfl (fun t ht hW => tl_fin hAe ⟨rfl, rfl⟩ (hP.sub (ws' := [tl_ob a_this 6 [.ref a_from, .ref a_to, .ref a_forms, .ref a_rules, .int (tl_I v_this_length)], tl_ia (cy 1) a_rules 10 v_rules]) [1, 0] rfl) hK (hD.sub (ws' := [tl_ob a_this 6 [.ref a_from, .ref a_to, .ref a_forms, .ref a_rules, .int (tl_I v_this_length)], tl_ia (cy 1) a_rules 10 v_rules]) [1, 0] (by decide) rfl) hS ht hW) hS.2.2 dX5_hasRule_23
end
section
set_option maxHeartbeats 4000000 in
set_option maxRecDepth 100000 in
theorem kt_X6_length (l : Launch) (D : va_G) (cy : Nat → ClassId) (a_this a_numbers : Nat) (v_this_length : Int) (z : Int) (hf : fX6_length v_this_length = some z) :
    tl_MC l D (tl_tys cy) yX6_length (tl_w yX6_length cX6_length 1 (some .int)) { frames := 0, cells := 0, slots := 0, locals := 0 } [.ref a_this] [tl_ob a_this 7 [.ref a_numbers, .int (tl_I v_this_length)]] 0 0 (fun v w1 => v = some (.int (tl_I z)) ∧ w1 = [tl_ob a_this 7 [.ref a_numbers, .int (tl_I v_this_length)]]) := by
  refine tl_ofW (cc := cX6_length) (maxL := 1) (ret := (some .int)) (by decide +kernel) (Nat.le_of_ble_eq_true rfl) ?_
  intro p e s m below meth c hx hb hr hml hts hown hlocks hnm A hAe hA hP hK hD hS ls hl
  have hl : lv_has ls 1 [(0, .ref a_this)] := hl
  unfold fX6_length at hf
  refine lv_aload_n hx hb dX6_length_0 rfl (lv_at hl 0 rfl) ?_
  refine va_get (ci := 7) (v := .int (tl_I v_this_length)) (C := RX6) (T := TX6) (N := 2) hx hb hts in_X6 hown hK hP 0 rfl rfl 1 (by decide) (hts _ tw_119) (fun _ h9 => h9) rfl dX6_length_1 ?_
  injection hf with hf
  subst hf
  exact W.iret (v := tl_I v_this_length) hx hb hr (fun t ht hW => tl_fin hAe ⟨rfl, rfl⟩ (hP.sub (ws' := [tl_ob a_this 7 [.ref a_numbers, .int (tl_I v_this_length)]]) [0] rfl) hK (hD.sub (ws' := [tl_ob a_this 7 [.ref a_numbers, .int (tl_I v_this_length)]]) [0] (by decide) rfl) hS ht hW) hS.2.2 dX6_length_4
set_option maxHeartbeats 4000000 in
set_option maxRecDepth 100000 in
theorem kt_X6_get (l : Launch) (D : va_G) (cy : Nat → ClassId) (a_this a_numbers : Nat) (v_this_length : Int) (v_numbers : Nat → Int) (p1 : Int) (z : Int) (hf : fX6_get v_this_length v_numbers p1 = some z) :
    tl_MC l D (tl_tys cy) yX6_get (tl_w yX6_get cX6_get 2 (some .int)) { frames := 0, cells := 0, slots := 0, locals := 0 } [.ref a_this, .int (tl_I p1)] [tl_ob a_this 7 [.ref a_numbers, .int (tl_I v_this_length)], tl_ia (cy 1) a_numbers 100 v_numbers] 0 0 (fun v w1 => v = some (.int (tl_I z)) ∧ w1 = [tl_ob a_this 7 [.ref a_numbers, .int (tl_I v_this_length)], tl_ia (cy 1) a_numbers 100 v_numbers]) := by
  refine tl_ofW (cc := cX6_get) (maxL := 2) (ret := (some .int)) (by decide +kernel) (Nat.le_of_ble_eq_true rfl) ?_
  intro p e s m below meth c hx hb hr hml hts hown hlocks hnm A hAe hA hP hK hD hS ls hl
  have hl : lv_has ls 2 [(0, .ref a_this), (1, .int (tl_I p1))] := hl
  unfold fX6_get at hf
  refine lv_iload_n hx hb dX6_get_0 rfl (lv_at hl 1 rfl) ?_
  refine tr_if_lt (tgt := 21) hx hb hf dX6_get_1 (by decide) (fun hc hf => ?_) (fun hc hf => ?_)
  · refine lv_iconst (v := tl_I (-1 : Int)) hx hb dX6_get_21 rfl ?_
    injection hf with hf
    subst hf
    exact W.iret (v := tl_I (-1 : Int)) hx hb hr (fun t ht hW => tl_fin hAe ⟨rfl, rfl⟩ (hP.sub (ws' := [tl_ob a_this 7 [.ref a_numbers, .int (tl_I v_this_length)], tl_ia (cy 1) a_numbers 100 v_numbers]) [0, 1] rfl) hK (hD.sub (ws' := [tl_ob a_this 7 [.ref a_numbers, .int (tl_I v_this_length)], tl_ia (cy 1) a_numbers 100 v_numbers]) [0, 1] (by decide) rfl) hS ht hW) hS.2.2 dX6_get_22
  · refine lv_iload_n hx hb dX6_get_4 rfl (lv_at hl 1 rfl) ?_
    refine lv_aload_n hx hb dX6_get_5 rfl (lv_at hl 0 rfl) ?_
    refine va_get (ci := 7) (v := .int (tl_I v_this_length)) (C := RX6) (T := TX6) (N := 2) hx hb hts in_X6 hown hK hP 0 rfl rfl 1 (by decide) (hts _ tw_119) (fun _ h9 => h9) rfl dX6_get_6 ?_
    refine tr_icmp_ge (tgt := 21) hx hb hf dX6_get_9 (by decide) (fun hc hf => ?_) (fun hc hf => ?_)
    · refine lv_aload_n hx hb dX6_get_12 rfl (lv_at hl 0 rfl) ?_
      refine va_get (ci := 7) (v := .ref a_numbers) (C := RX6) (T := TX6) (N := 2) hx hb hts in_X6 hown hK hP 0 rfl rfl 0 (by decide) (hts _ tw_118) (fun _ h9 => h9) rfl dX6_get_13 ?_
      refine lv_iload_n hx hb dX6_get_16 rfl (lv_at hl 1 rfl) ?_
      refine tr_iald hx hb hf hK hP 1 1 rfl rfl (by decide) dX6_get_17 (fun hf => ?_)
      refine lv_goto (tgt := 22) hx hb dX6_get_18 (by decide) ?_
      injection hf with hf
      subst hf
      exact W.iret (v := tl_I (v_numbers p1.toNat)) hx hb hr (fun t ht hW => tl_fin hAe ⟨rfl, rfl⟩ (hP.sub (ws' := [tl_ob a_this 7 [.ref a_numbers, .int (tl_I v_this_length)], tl_ia (cy 1) a_numbers 100 v_numbers]) [0, 1] rfl) hK (hD.sub (ws' := [tl_ob a_this 7 [.ref a_numbers, .int (tl_I v_this_length)], tl_ia (cy 1) a_numbers 100 v_numbers]) [0, 1] (by decide) rfl) hS ht hW) hS.2.2 dX6_get_22
    · refine lv_iconst (v := tl_I (-1 : Int)) hx hb dX6_get_21 rfl ?_
      injection hf with hf
      subst hf
      exact W.iret (v := tl_I (-1 : Int)) hx hb hr (fun t ht hW => tl_fin hAe ⟨rfl, rfl⟩ (hP.sub (ws' := [tl_ob a_this 7 [.ref a_numbers, .int (tl_I v_this_length)], tl_ia (cy 1) a_numbers 100 v_numbers]) [0, 1] rfl) hK (hD.sub (ws' := [tl_ob a_this 7 [.ref a_numbers, .int (tl_I v_this_length)], tl_ia (cy 1) a_numbers 100 v_numbers]) [0, 1] (by decide) rfl) hS ht hW) hS.2.2 dX6_get_22
set_option maxHeartbeats 4000000 in
set_option maxRecDepth 100000 in
theorem kt_X6_clear (l : Launch) (D : va_G) (cy : Nat → ClassId) (a_this a_numbers : Nat) (v_this_length : Int) (z : Int) (hf : fX6_clear v_this_length = some z) :
    tl_MC l D (tl_tys cy) yX6_clear (tl_w yX6_clear cX6_clear 1 none) { frames := 0, cells := 0, slots := 0, locals := 0 } [.ref a_this] [tl_ob a_this 7 [.ref a_numbers, .int (tl_I v_this_length)]] 0 0 (fun v w1 => v = none ∧ w1 = [tl_ob a_this 7 [.ref a_numbers, .int (tl_I z)]]) := by
  refine tl_ofW (cc := cX6_clear) (maxL := 1) (ret := none) (by decide +kernel) (Nat.le_of_ble_eq_true rfl) ?_
  intro p e s m below meth c hx hb hr hml hts hown hlocks hnm A hAe hA hP hK hD hS ls hl
  have hl : lv_has ls 1 [(0, .ref a_this)] := hl
  unfold fX6_clear at hf
  refine lv_aload_n hx hb dX6_clear_0 rfl (lv_at hl 0 rfl) ?_
  refine lv_iconst (v := tl_I (0 : Int)) hx hb dX6_clear_1 rfl ?_
  refine va_put (ci := 7) (v := .int (tl_I (0 : Int))) (ty := .int) (C := RX6) (T := TX6) (N := 2) hx hb hts in_X6 tyX6 tyX6_ok nmX6 hown hK hP hD hS 0 rfl rfl 1 (by decide) (hts _ tw_119) (fun _ h9 => h9) rfl (by decide +kernel) rfl rfl (Nat.le_of_ble_eq_true rfl) dX6_clear_2 (fun H locs hP hD hS => ?_)
  have hP : va_P D vwCl [tl_ob a_this 7 [.ref a_numbers, .int (tl_I (0 : Int))]] H := hP
  have hD : va_D A [tl_ob a_this 7 [.ref a_numbers, .int (tl_I (0 : Int))]] := hD
  injection hf with hf
  subst hf
  exact W.vret hx hb hr (fun t ht hW => tl_fin hAe ⟨rfl, rfl⟩ (hP.sub (ws' := [tl_ob a_this 7 [.ref a_numbers, .int (tl_I (0 : Int))]]) [0] rfl) hK (hD.sub (ws' := [tl_ob a_this 7 [.ref a_numbers, .int (tl_I (0 : Int))]]) [0] (by decide) rfl) hS ht hW) hS.2.2 dX6_clear_5
set_option maxHeartbeats 4000000 in
set_option maxRecDepth 100000 in
theorem kt_X6_add (l : Launch) (D : va_G) (cy : Nat → ClassId) (a_this a_numbers : Nat) (v_this_length : Int) (v_numbers : Nat → Int) (p1 : Int) (z : (Nat → Int) × Int) (hf : fX6_add v_this_length v_numbers p1 = some z) :
    tl_MC l D (tl_tys cy) yX6_add (tl_w yX6_add cX6_add 2 none) { frames := 0, cells := 0, slots := 0, locals := 0 } [.ref a_this, .int (tl_I p1)] [tl_ob a_this 7 [.ref a_numbers, .int (tl_I v_this_length)], tl_ia (cy 1) a_numbers 100 v_numbers] 0 0 (fun v w1 => v = none ∧ w1 = [tl_ob a_this 7 [.ref a_numbers, .int (tl_I z.2)], tl_ia (cy 1) a_numbers 100 z.1]) := by
  refine tl_ofW (cc := cX6_add) (maxL := 2) (ret := none) (by decide +kernel) (Nat.le_of_ble_eq_true rfl) ?_
  intro p e s m below meth c hx hb hr hml hts hown hlocks hnm A hAe hA hP hK hD hS ls hl
  have hl : lv_has ls 2 [(0, .ref a_this), (1, .int (tl_I p1))] := hl
  unfold fX6_add at hf
  refine lv_aload_n hx hb dX6_add_0 rfl (lv_at hl 0 rfl) ?_
  refine va_get (ci := 7) (v := .int (tl_I v_this_length)) (C := RX6) (T := TX6) (N := 2) hx hb hts in_X6 hown hK hP 0 rfl rfl 1 (by decide) (hts _ tw_119) (fun _ h9 => h9) rfl dX6_add_1 ?_
  refine lv_bipush (v := tl_I (100 : Int)) hx hb dX6_add_4 rfl ?_
  refine tr_icmp_ge (tgt := 29) hx hb hf dX6_add_6 (by decide) (fun hc hf => ?_) (fun hc hf => ?_)
  · refine lv_aload_n hx hb dX6_add_9 rfl (lv_at hl 0 rfl) ?_
    refine va_get (ci := 7) (v := .ref a_numbers) (C := RX6) (T := TX6) (N := 2) hx hb hts in_X6 hown hK hP 0 rfl rfl 0 (by decide) (hts _ tw_118) (fun _ h9 => h9) rfl dX6_add_10 ?_
    refine lv_aload_n hx hb dX6_add_13 rfl (lv_at hl 0 rfl) ?_
    refine va_get (ci := 7) (v := .int (tl_I v_this_length)) (C := RX6) (T := TX6) (N := 2) hx hb hts in_X6 hown hK hP 0 rfl rfl 1 (by decide) (hts _ tw_119) (fun _ h9 => h9) rfl dX6_add_14 ?_
    refine lv_iload_n hx hb dX6_add_17 rfl (lv_at hl 1 rfl) ?_
    refine tr_iast hx hb hf hK hP hD hS 1 1 rfl rfl (by decide) dX6_add_18 (fun hf H locs hP hD hS => ?_)
    have hP : va_P D vwCl [tl_ob a_this 7 [.ref a_numbers, .int (tl_I v_this_length)], tl_ia (cy 1) a_numbers 100 (va_up v_numbers v_this_length.toNat p1)] H := hP
    have hD : va_D A [tl_ob a_this 7 [.ref a_numbers, .int (tl_I v_this_length)], tl_ia (cy 1) a_numbers 100 (va_up v_numbers v_this_length.toNat p1)] := hD
    refine lv_aload_n hx hb dX6_add_19 rfl (lv_at hl 0 rfl) ?_
    refine lv_dup hx hb dX6_add_20 rfl ?_
    refine va_get (ci := 7) (v := .int (tl_I v_this_length)) (C := RX6) (T := TX6) (N := 2) hx hb hts in_X6 hown hK hP 0 rfl rfl 1 (by decide) (hts _ tw_119) (fun _ h9 => h9) rfl dX6_add_21 ?_
    refine lv_iconst (v := tl_I (1 : Int)) hx hb dX6_add_24 rfl ?_
    refine tr_iadd hx hb dX6_add_25 ?_
    refine va_put (ci := 7) (v := .int (tl_I (v_this_length + (1 : Int)))) (ty := .int) (C := RX6) (T := TX6) (N := 2) hx hb hts in_X6 tyX6 tyX6_ok nmX6 hown hK hP hD hS 0 rfl rfl 1 (by decide) (hts _ tw_119) (fun _ h9 => h9) rfl (by decide +kernel) rfl rfl (Nat.le_of_ble_eq_true rfl) dX6_add_26 (fun H locs hP hD hS => ?_)
    have hP : va_P D vwCl [tl_ob a_this 7 [.ref a_numbers, .int (tl_I (v_this_length + (1 : Int)))], tl_ia (cy 1) a_numbers 100 (va_up v_numbers v_this_length.toNat p1)] H := hP
    have hD : va_D A [tl_ob a_this 7 [.ref a_numbers, .int (tl_I (v_this_length + (1 : Int)))], tl_ia (cy 1) a_numbers 100 (va_up v_numbers v_this_length.toNat p1)] := hD
    injection hf with hf
    subst hf
    exact W.vret hx hb hr (fun t ht hW => tl_fin hAe ⟨rfl, rfl⟩ (hP.sub (ws' := [tl_ob a_this 7 [.ref a_numbers, .int (tl_I (v_this_length + (1 : Int)))], tl_ia (cy 1) a_numbers 100 (va_up v_numbers v_this_length.toNat p1)]) [0, 1] rfl) hK (hD.sub (ws' := [tl_ob a_this 7 [.ref a_numbers, .int (tl_I (v_this_length + (1 : Int)))], tl_ia (cy 1) a_numbers 100 (va_up v_numbers v_this_length.toNat p1)]) [0, 1] (by decide) rfl) hS ht hW) hS.2.2 dX6_add_29
  · injection hf with hf
    subst hf
    exact W.vret hx hb hr (fun t ht hW => tl_fin hAe ⟨rfl, rfl⟩ (hP.sub (ws' := [tl_ob a_this 7 [.ref a_numbers, .int (tl_I v_this_length)], tl_ia (cy 1) a_numbers 100 v_numbers]) [0, 1] rfl) hK (hD.sub (ws' := [tl_ob a_this 7 [.ref a_numbers, .int (tl_I v_this_length)], tl_ia (cy 1) a_numbers 100 v_numbers]) [0, 1] (by decide) rfl) hS ht hW) hS.2.2 dX6_add_29
end
section
set_option maxHeartbeats 4000000 in
set_option maxRecDepth 100000 in
theorem kt_X3_isRow (l : Launch) (D : va_G) (cy : Nat → ClassId)  (p1 : Int) (p2 : Int) (z : Int) (hf : fX3_isRow p1 p2 = some z) :
    tl_MC l D (tl_tys cy) yX3_isRow (tl_w yX3_isRow cX3_isRow 2 (some .boolean)) { frames := 0, cells := 0, slots := 0, locals := 0 } [.int (tl_I p1), .int (tl_I p2)] [] 0 0 (fun v w1 => v = some (.int (tl_I z)) ∧ w1 = []) := by
  refine tl_ofW (cc := cX3_isRow) (maxL := 2) (ret := (some .boolean)) (by decide +kernel) (Nat.le_of_ble_eq_true rfl) ?_
  intro p e s m below meth c hx hb hr hml hts hown hlocks hnm A hAe hA hP hK hD hS ls hl
  have hl : lv_has ls 2 [(0, .int (tl_I p1)), (1, .int (tl_I p2))] := hl
  unfold fX3_isRow at hf
  refine lv_iload_n hx hb dX3_isRow_0 rfl (lv_at hl 0 rfl) ?_
  refine tr_if_lt (tgt := 24) hx hb hf dX3_isRow_1 (by decide) (fun hc hf => ?_) (fun hc hf => ?_)
  · refine lv_iconst (v := tl_I (0 : Int)) hx hb dX3_isRow_24 rfl ?_
    injection hf with hf
    subst hf
    exact W.zret (v := tl_I (0 : Int)) hx hb hr rfl (fun t ht hW => tl_fin hAe ⟨rfl, rfl⟩ (hP.sub (ws' := []) [] rfl) hK (hD.sub (ws' := []) [] (by decide) rfl) hS ht hW) hS.2.2 dX3_isRow_25
  · refine lv_iload_n hx hb dX3_isRow_4 rfl (lv_at hl 0 rfl) ?_
    refine lv_bipush (v := tl_I (10 : Int)) hx hb dX3_isRow_5 rfl ?_
    refine tr_icmp_ge (tgt := 24) hx hb hf dX3_isRow_7 (by decide) (fun hc hf => ?_) (fun hc hf => ?_)
    · refine lv_iload_n hx hb dX3_isRow_10 rfl (lv_at hl 1 rfl) ?_
      refine tr_if_lt (tgt := 24) hx hb hf dX3_isRow_11 (by decide) (fun hc hf => ?_) (fun hc hf => ?_)
      · refine lv_iconst (v := tl_I (0 : Int)) hx hb dX3_isRow_24 rfl ?_
        injection hf with hf
        subst hf
        exact W.zret (v := tl_I (0 : Int)) hx hb hr rfl (fun t ht hW => tl_fin hAe ⟨rfl, rfl⟩ (hP.sub (ws' := []) [] rfl) hK (hD.sub (ws' := []) [] (by decide) rfl) hS ht hW) hS.2.2 dX3_isRow_25
      · refine lv_iload_n hx hb dX3_isRow_14 rfl (lv_at hl 1 rfl) ?_
        refine lv_bipush (v := tl_I (100 : Int)) hx hb dX3_isRow_15 rfl ?_
        refine tr_icmp_ge (tgt := 24) hx hb hf dX3_isRow_17 (by decide) (fun hc hf => ?_) (fun hc hf => ?_)
        · refine lv_iconst (v := tl_I (1 : Int)) hx hb dX3_isRow_20 rfl ?_
          refine lv_goto (tgt := 25) hx hb dX3_isRow_21 (by decide) ?_
          injection hf with hf
          subst hf
          exact W.zret (v := tl_I (1 : Int)) hx hb hr rfl (fun t ht hW => tl_fin hAe ⟨rfl, rfl⟩ (hP.sub (ws' := []) [] rfl) hK (hD.sub (ws' := []) [] (by decide) rfl) hS ht hW) hS.2.2 dX3_isRow_25
        · refine lv_iconst (v := tl_I (0 : Int)) hx hb dX3_isRow_24 rfl ?_
          injection hf with hf
          subst hf
          exact W.zret (v := tl_I (0 : Int)) hx hb hr rfl (fun t ht hW => tl_fin hAe ⟨rfl, rfl⟩ (hP.sub (ws' := []) [] rfl) hK (hD.sub (ws' := []) [] (by decide) rfl) hS ht hW) hS.2.2 dX3_isRow_25
    · refine lv_iconst (v := tl_I (0 : Int)) hx hb dX3_isRow_24 rfl ?_
      injection hf with hf
      subst hf
      exact W.zret (v := tl_I (0 : Int)) hx hb hr rfl (fun t ht hW => tl_fin hAe ⟨rfl, rfl⟩ (hP.sub (ws' := []) [] rfl) hK (hD.sub (ws' := []) [] (by decide) rfl) hS ht hW) hS.2.2 dX3_isRow_25
set_option maxHeartbeats 4000000 in
set_option maxRecDepth 100000 in
theorem kt_X3_rowOf (l : Launch) (D : va_G) (cy : Nat → ClassId)  (p1 : Int) (p2 : Int) (z : Int) (hf : fX3_rowOf p1 p2 = some z) :
    tl_MC l D (tl_tys cy) yX3_rowOf (tl_w yX3_rowOf cX3_rowOf 2 (some .int)) { frames := 0, cells := 0, slots := 0, locals := 0 } [.int (tl_I p1), .int (tl_I p2)] [] 0 0 (fun v w1 => v = some (.int (tl_I z)) ∧ w1 = []) := by
  refine tl_ofW (cc := cX3_rowOf) (maxL := 2) (ret := (some .int)) (by decide +kernel) (Nat.le_of_ble_eq_true rfl) ?_
  intro p e s m below meth c hx hb hr hml hts hown hlocks hnm A hAe hA hP hK hD hS ls hl
  have hl : lv_has ls 2 [(0, .int (tl_I p1)), (1, .int (tl_I p2))] := hl
  unfold fX3_rowOf at hf
  refine lv_iload_n hx hb dX3_rowOf_0 rfl (lv_at hl 0 rfl) ?_
  refine lv_bipush (v := tl_I (100 : Int)) hx hb dX3_rowOf_1 rfl ?_
  refine tr_imul hx hb dX3_rowOf_3 ?_
  refine lv_iload_n hx hb dX3_rowOf_4 rfl (lv_at hl 1 rfl) ?_
  refine tr_iadd hx hb dX3_rowOf_5 ?_
  injection hf with hf
  subst hf
  exact W.iret (v := tl_I ((p1 * (100 : Int)) + p2)) hx hb hr (fun t ht hW => tl_fin hAe ⟨rfl, rfl⟩ (hP.sub (ws' := []) [] rfl) hK (hD.sub (ws' := []) [] (by decide) rfl) hS ht hW) hS.2.2 dX3_rowOf_6
set_option maxHeartbeats 4000000 in
set_option maxRecDepth 100000 in
theorem kt_X3_lengthOf (l : Launch) (D : va_G) (cy : Nat → ClassId) (a_this a_lengths a_words : Nat) (v_lengths : Nat → Int) (p1 : Int) (p2 : Int) (z : Int) (hf : fX3_lengthOf v_lengths p1 p2 = some z) :
    tl_MC l D (tl_tys cy) yX3_lengthOf (tl_w yX3_lengthOf cX3_lengthOf 3 (some .int)) { frames := 1, cells := 0, slots := 0, locals := 21 } [.ref a_this, .int (tl_I p1), .int (tl_I p2)] [tl_ob a_this 4 [.ref a_words, .ref a_lengths], tl_ia (cy 1) a_lengths 1000 v_lengths] 0 0 (fun v w1 => v = some (.int (tl_I z)) ∧ w1 = [tl_ob a_this 4 [.ref a_words, .ref a_lengths], tl_ia (cy 1) a_lengths 1000 v_lengths]) := by
  refine tl_ofW (cc := cX3_lengthOf) (maxL := 3) (ret := (some .int)) (by decide +kernel) (Nat.le_of_ble_eq_true rfl) ?_
  intro p e s m below meth c hx hb hr hml hts hown hlocks hnm A hAe hA hP hK hD hS ls hl
  have hl : lv_has ls 3 [(0, .ref a_this), (1, .int (tl_I p1)), (2, .int (tl_I p2))] := hl
  unfold fX3_lengthOf at hf
  refine lv_iload_n hx hb dX3_lengthOf_0 rfl (lv_at hl 1 rfl) ?_
  refine lv_iload_n hx hb dX3_lengthOf_1 rfl (lv_at hl 2 rfl) ?_
  obtain ⟨z1, hz, hf⟩ := tl_bs hf
  refine tl_callS0 (As := [.int (tl_I p1), .int (tl_I p2)]) (rest := []) (wr := [tl_ob a_this 4 [.ref a_words, .ref a_lengths], tl_ia (cy 1) a_lengths 1000 v_lengths]) ⟨hx, hb, hml, hown, hts⟩ (kt_X3_isRow l D cy p1 p2 z1 hz) (va_cwS 2 hts tg_X3_19 rfl rfl rfl td_X3_isRow ⟨by decide, by decide⟩) hK hP hD hS hA [] [0, 1] rfl rfl rfl rfl (by decide) rfl hl.1 rfl (Nat.le_of_ble_eq_true rfl) dX3_lengthOf_2 ⟨by decide, by decide⟩ (fun v w1 H locs hp hP hD hS => ?_)
  obtain ⟨rfl, rfl⟩ := hp
  have hP : va_P D vwCl [tl_ob a_this 4 [.ref a_words, .ref a_lengths], tl_ia (cy 1) a_lengths 1000 v_lengths] H := hP
  have hD : va_D A [tl_ob a_this 4 [.ref a_words, .ref a_lengths], tl_ia (cy 1) a_lengths 1000 v_lengths] := hD
  refine W.eq (g2 := F0 m 5 ls [.int (tl_I z1)]) rfl ?_
  refine tr_if_eq (tgt := 21) hx hb hf dX3_lengthOf_5 (by decide) (fun hc hf => ?_) (fun hc hf => ?_)
  · refine lv_iconst (v := tl_I (0 : Int)) hx hb dX3_lengthOf_21 rfl ?_
    injection hf with hf
    subst hf
    exact W.iret (v := tl_I (0 : Int)) hx hb hr (fun t ht hW => tl_fin hAe ⟨rfl, rfl⟩ (hP.sub (ws' := [tl_ob a_this 4 [.ref a_words, .ref a_lengths], tl_ia (cy 1) a_lengths 1000 v_lengths]) [0, 1] rfl) hK (hD.sub (ws' := [tl_ob a_this 4 [.ref a_words, .ref a_lengths], tl_ia (cy 1) a_lengths 1000 v_lengths]) [0, 1] (by decide) rfl) hS ht hW) hS.2.2 dX3_lengthOf_22
  · refine lv_aload_n hx hb dX3_lengthOf_8 rfl (lv_at hl 0 rfl) ?_
    refine va_get (ci := 4) (v := .ref a_lengths) (C := RX3) (T := TX3) (N := 2) hx hb hts in_X3 hown hK hP 0 rfl rfl 1 (by decide) (hts _ tw_242) (fun _ h9 => h9) rfl dX3_lengthOf_9 ?_
    refine lv_iload_n hx hb dX3_lengthOf_12 rfl (lv_at hl 1 rfl) ?_
    refine lv_iload_n hx hb dX3_lengthOf_13 rfl (lv_at hl 2 rfl) ?_
    obtain ⟨z2, hz, hf⟩ := tl_bs hf
    refine tl_callS0 (As := [.int (tl_I p1), .int (tl_I p2)]) (rest := [.ref a_lengths]) (wr := [tl_ob a_this 4 [.ref a_words, .ref a_lengths], tl_ia (cy 1) a_lengths 1000 v_lengths]) ⟨hx, hb, hml, hown, hts⟩ (kt_X3_rowOf l D cy p1 p2 z2 hz) (va_cwS 2 hts tg_X3_23 rfl rfl rfl td_X3_rowOf ⟨by decide, by decide⟩) hK hP hD hS hA [] [0, 1] rfl rfl rfl rfl (by decide) rfl hl.1 rfl (Nat.le_of_ble_eq_true rfl) dX3_lengthOf_14 ⟨by decide, by decide⟩ (fun v w1 H locs hp hP hD hS => ?_)
    obtain ⟨rfl, rfl⟩ := hp
    have hP : va_P D vwCl [tl_ob a_this 4 [.ref a_words, .ref a_lengths], tl_ia (cy 1) a_lengths 1000 v_lengths] H := hP
    have hD : va_D A [tl_ob a_this 4 [.ref a_words, .ref a_lengths], tl_ia (cy 1) a_lengths 1000 v_lengths] := hD
    refine W.eq (g2 := F0 m 17 ls [.int (tl_I z2), .ref a_lengths]) rfl ?_
    refine tr_iald hx hb hf hK hP 1 1 rfl rfl (by decide) dX3_lengthOf_17 (fun hf => ?_)
    refine lv_goto (tgt := 22) hx hb dX3_lengthOf_18 (by decide) ?_
    injection hf with hf
    subst hf
    exact W.iret (v := tl_I (v_lengths z2.toNat)) hx hb hr (fun t ht hW => tl_fin hAe ⟨rfl, rfl⟩ (hP.sub (ws' := [tl_ob a_this 4 [.ref a_words, .ref a_lengths], tl_ia (cy 1) a_lengths 1000 v_lengths]) [0, 1] rfl) hK (hD.sub (ws' := [tl_ob a_this 4 [.ref a_words, .ref a_lengths], tl_ia (cy 1) a_lengths 1000 v_lengths]) [0, 1] (by decide) rfl) hS ht hW) hS.2.2 dX3_lengthOf_22
set_option maxHeartbeats 4000000 in
set_option maxRecDepth 100000 in
theorem kt_X3_read (l : Launch) (D : va_G) (cy : Nat → ClassId) (a_this a_words a_lengths : Nat) (v_words : Nat → Int64) (p1 : Int) (p2 : Int) (z : Int) (hf : fX3_read v_words p1 p2 = some z) :
    tl_MC l D (tl_tys cy) yX3_read (tl_w yX3_read cX3_read 6 (some .int)) { frames := 0, cells := 0, slots := 0, locals := 0 } [.ref a_this, .int (tl_I p1), .int (tl_I p2)] [tl_ob a_this 4 [.ref a_words, .ref a_lengths], tl_ja (cy 2) a_words 2000 v_words] 0 0 (fun v w1 => v = some (.int (tl_I z)) ∧ w1 = [tl_ob a_this 4 [.ref a_words, .ref a_lengths], tl_ja (cy 2) a_words 2000 v_words]) := by
  refine tl_ofW (cc := cX3_read) (maxL := 6) (ret := (some .int)) (by decide +kernel) (Nat.le_of_ble_eq_true rfl) ?_
  intro p e s m below meth c hx hb hr hml hts hown hlocks hnm A hAe hA hP hK hD hS ls hl
  have hl : lv_has ls 6 [(0, .ref a_this), (1, .int (tl_I p1)), (2, .int (tl_I p2))] := hl
  unfold fX3_read at hf
  refine lv_aload_n hx hb dX3_read_0 rfl (lv_at hl 0 rfl) ?_
  refine va_get (ci := 4) (v := .ref a_words) (C := RX3) (T := TX3) (N := 2) hx hb hts in_X3 hown hK hP 0 rfl rfl 0 (by decide) (hts _ tw_241) (fun _ h9 => h9) rfl dX3_read_1 ?_
  refine lv_iload_n hx hb dX3_read_4 rfl (lv_at hl 1 rfl) ?_
  refine lv_iconst (v := tl_I (2 : Int)) hx hb dX3_read_5 rfl ?_
  refine tr_imul hx hb dX3_read_6 ?_
  refine lv_iload_n hx hb dX3_read_7 rfl (lv_at hl 2 rfl) ?_
  refine lv_bipush (v := tl_I (6 : Int)) hx hb dX3_read_8 rfl ?_
  refine tr_idiv hx hb hf dX3_read_10 (fun hf => ?_)
  refine tr_iadd hx hb dX3_read_11 ?_
  refine tr_lald hx hb hf hK hP 1 2 rfl rfl (by decide) dX3_read_12 (fun hf => ?_)
  refine lv_lstore_n (lv' := [(3, .long (v_words ((p1 * (2 : Int)) + (p2 / (6 : Int))).toNat)), (0, .ref a_this), (1, .int (tl_I p1)), (2, .int (tl_I p2))]) hx hb dX3_read_13 rfl hl (by decide) rfl (fun ls hl => ?_)
  refine lv_iload_n hx hb dX3_read_14 rfl (lv_at hl 3 rfl) ?_
  refine lv_bipush (v := tl_I (6 : Int)) hx hb dX3_read_15 rfl ?_
  refine tr_irem hx hb hf dX3_read_17 (fun hf => ?_)
  refine lv_bipush (v := tl_I (8 : Int)) hx hb dX3_read_18 rfl ?_
  refine tr_imul hx hb dX3_read_20 ?_
  refine lv_istore (lv' := [(5, .int (tl_I ((p2 % (6 : Int)) * (8 : Int)))), (3, .long (v_words ((p1 * (2 : Int)) + (p2 / (6 : Int))).toNat)), (0, .ref a_this), (1, .int (tl_I p1)), (2, .int (tl_I p2))]) hx hb dX3_read_21 hl (by decide) rfl (fun ls hl => ?_)
  refine lv_lload_n hx hb dX3_read_23 rfl (lv_at hl 1 rfl) ?_
  refine lv_iload hx hb dX3_read_24 (lv_at hl 0 rfl) ?_
  refine lv_lushr (v := tl_lushr (v_words ((p1 * (2 : Int)) + (p2 / (6 : Int))).toNat) ((p2 % (6 : Int)) * (8 : Int))) hx hb dX3_read_26 rfl ?_
  refine lv_ldc2 (v := 255) hx hb hown (hts _ tw_529) dX3_read_27 ?_
  refine lv_land hx hb dX3_read_30 ?_
  refine lv_l2i (v := tl_I (tl_l2i ((tl_lushr (v_words ((p1 * (2 : Int)) + (p2 / (6 : Int))).toNat) ((p2 % (6 : Int)) * (8 : Int))) &&& (255 : Int64)))) hx hb dX3_read_31 (tl_l2i_ok _) ?_
  injection hf with hf
  subst hf
  exact W.iret (v := tl_I (tl_l2i ((tl_lushr (v_words ((p1 * (2 : Int)) + (p2 / (6 : Int))).toNat) ((p2 % (6 : Int)) * (8 : Int))) &&& (255 : Int64)))) hx hb hr (fun t ht hW => tl_fin hAe ⟨rfl, rfl⟩ (hP.sub (ws' := [tl_ob a_this 4 [.ref a_words, .ref a_lengths], tl_ja (cy 2) a_words 2000 v_words]) [0, 1] rfl) hK (hD.sub (ws' := [tl_ob a_this 4 [.ref a_words, .ref a_lengths], tl_ja (cy 2) a_words 2000 v_words]) [0, 1] (by decide) rfl) hS ht hW) hS.2.2 dX3_read_32
set_option maxHeartbeats 4000000 in
set_option maxRecDepth 100000 in
theorem kt_X3_get (l : Launch) (D : va_G) (cy : Nat → ClassId) (a_this a_lengths a_words : Nat) (v_lengths : Nat → Int) (v_words : Nat → Int64) (p1 : Int) (p2 : Int) (p3 : Int) (z : Int) (hf : fX3_get v_lengths v_words p1 p2 p3 = some z) :
    tl_MC l D (tl_tys cy) yX3_get (tl_w yX3_get cX3_get 4 (some .int)) { frames := 2, cells := 0, slots := 0, locals := 43 } [.ref a_this, .int (tl_I p1), .int (tl_I p2), .int (tl_I p3)] [tl_ob a_this 4 [.ref a_words, .ref a_lengths], tl_ia (cy 1) a_lengths 1000 v_lengths, tl_ja (cy 2) a_words 2000 v_words] 0 0 (fun v w1 => v = some (.int (tl_I z)) ∧ w1 = [tl_ob a_this 4 [.ref a_words, .ref a_lengths], tl_ia (cy 1) a_lengths 1000 v_lengths, tl_ja (cy 2) a_words 2000 v_words]) := by
  refine tl_ofW (cc := cX3_get) (maxL := 4) (ret := (some .int)) (by decide +kernel) (Nat.le_of_ble_eq_true rfl) ?_
  intro p e s m below meth c hx hb hr hml hts hown hlocks hnm A hAe hA hP hK hD hS ls hl
  have hl : lv_has ls 4 [(0, .ref a_this), (1, .int (tl_I p1)), (2, .int (tl_I p2)), (3, .int (tl_I p3))] := hl
  unfold fX3_get at hf
  refine lv_iload_n hx hb dX3_get_0 rfl (lv_at hl 3 rfl) ?_
  refine tr_if_lt (tgt := 27) hx hb hf dX3_get_1 (by decide) (fun hc hf => ?_) (fun hc hf => ?_)
  · refine lv_iconst (v := tl_I (-1 : Int)) hx hb dX3_get_27 rfl ?_
    injection hf with hf
    subst hf
    exact W.iret (v := tl_I (-1 : Int)) hx hb hr (fun t ht hW => tl_fin hAe ⟨rfl, rfl⟩ (hP.sub (ws' := [tl_ob a_this 4 [.ref a_words, .ref a_lengths], tl_ia (cy 1) a_lengths 1000 v_lengths, tl_ja (cy 2) a_words 2000 v_words]) [0, 1, 2] rfl) hK (hD.sub (ws' := [tl_ob a_this 4 [.ref a_words, .ref a_lengths], tl_ia (cy 1) a_lengths 1000 v_lengths, tl_ja (cy 2) a_words 2000 v_words]) [0, 1, 2] (by decide) rfl) hS ht hW) hS.2.2 dX3_get_28
  · refine lv_iload_n hx hb dX3_get_4 rfl (lv_at hl 3 rfl) ?_
    refine lv_aload_n hx hb dX3_get_5 rfl (lv_at hl 0 rfl) ?_
    refine lv_iload_n hx hb dX3_get_6 rfl (lv_at hl 1 rfl) ?_
    refine lv_iload_n hx hb dX3_get_7 rfl (lv_at hl 2 rfl) ?_
    obtain ⟨z1, hz, hf⟩ := tl_bs hf
    refine tl_callV0 (As := [.int (tl_I p1), .int (tl_I p2)]) (rest := [.int (tl_I p3)]) (wr := [tl_ja (cy 2) a_words 2000 v_words]) ⟨hx, hb, hml, hown, hts⟩ (kt_X3_lengthOf l D cy a_this a_lengths a_words v_lengths p1 p2 z1 hz) (cwV 2 hts tg_X3_27 rfl rfl rfl td_X3_lengthOf ⟨by decide, by decide⟩) hK hP hD hS hA [0, 1] [2] rfl rfl rfl rfl (by decide) 0 4 rfl rfl rfl rfl hl.1 rfl (Nat.le_of_ble_eq_true rfl) dX3_get_8 ⟨by decide, by decide⟩ (fun v w1 H locs hp hP hD hS => ?_)
    obtain ⟨rfl, rfl⟩ := hp
    have hP : va_P D vwCl [tl_ja (cy 2) a_words 2000 v_words, tl_ob a_this 4 [.ref a_words, .ref a_lengths], tl_ia (cy 1) a_lengths 1000 v_lengths] H := hP
    have hD : va_D A [tl_ja (cy 2) a_words 2000 v_words, tl_ob a_this 4 [.ref a_words, .ref a_lengths], tl_ia (cy 1) a_lengths 1000 v_lengths] := hD
    refine W.eq (g2 := F0 m 11 ls [.int (tl_I z1), .int (tl_I p3)]) rfl ?_
    refine tr_icmp_ge (tgt := 27) hx hb hf dX3_get_11 (by decide) (fun hc hf => ?_) (fun hc hf => ?_)
    · refine lv_aload_n hx hb dX3_get_14 rfl (lv_at hl 0 rfl) ?_
      refine lv_iload_n hx hb dX3_get_15 rfl (lv_at hl 1 rfl) ?_
      refine lv_iload_n hx hb dX3_get_16 rfl (lv_at hl 2 rfl) ?_
      obtain ⟨z2, hz, hf⟩ := tl_bs hf
      refine tl_callS0 (As := [.int (tl_I p1), .int (tl_I p2)]) (rest := [.ref a_this]) (wr := [tl_ja (cy 2) a_words 2000 v_words, tl_ob a_this 4 [.ref a_words, .ref a_lengths], tl_ia (cy 1) a_lengths 1000 v_lengths]) ⟨hx, hb, hml, hown, hts⟩ (kt_X3_rowOf l D cy p1 p2 z2 hz) (va_cwS 2 hts tg_X3_23 rfl rfl rfl td_X3_rowOf ⟨by decide, by decide⟩) hK hP hD hS hA [] [0, 1, 2] rfl rfl rfl rfl (by decide) rfl hl.1 rfl (Nat.le_of_ble_eq_true rfl) dX3_get_17 ⟨by decide, by decide⟩ (fun v w1 H locs hp hP hD hS => ?_)
      obtain ⟨rfl, rfl⟩ := hp
      have hP : va_P D vwCl [tl_ja (cy 2) a_words 2000 v_words, tl_ob a_this 4 [.ref a_words, .ref a_lengths], tl_ia (cy 1) a_lengths 1000 v_lengths] H := hP
      have hD : va_D A [tl_ja (cy 2) a_words 2000 v_words, tl_ob a_this 4 [.ref a_words, .ref a_lengths], tl_ia (cy 1) a_lengths 1000 v_lengths] := hD
      refine W.eq (g2 := F0 m 20 ls [.int (tl_I z2), .ref a_this]) rfl ?_
      refine lv_iload_n hx hb dX3_get_20 rfl (lv_at hl 3 rfl) ?_
      obtain ⟨z3, hz, hf⟩ := tl_bs hf
      refine tl_callV0 (As := [.int (tl_I z2), .int (tl_I p3)]) (rest := []) (wr := [tl_ia (cy 1) a_lengths 1000 v_lengths]) ⟨hx, hb, hml, hown, hts⟩ (kt_X3_read l D cy a_this a_words a_lengths v_words z2 p3 z3 hz) (cwV 2 hts tg_X3_30 rfl rfl rfl td_X3_read ⟨by decide, by decide⟩) hK hP hD hS hA [1, 0] [2] rfl rfl rfl rfl (by decide) 1 4 rfl rfl rfl rfl hl.1 rfl (Nat.le_of_ble_eq_true rfl) dX3_get_21 ⟨by decide, by decide⟩ (fun v w1 H locs hp hP hD hS => ?_)
      obtain ⟨rfl, rfl⟩ := hp
      have hP : va_P D vwCl [tl_ia (cy 1) a_lengths 1000 v_lengths, tl_ob a_this 4 [.ref a_words, .ref a_lengths], tl_ja (cy 2) a_words 2000 v_words] H := hP
      have hD : va_D A [tl_ia (cy 1) a_lengths 1000 v_lengths, tl_ob a_this 4 [.ref a_words, .ref a_lengths], tl_ja (cy 2) a_words 2000 v_words] := hD
      refine W.eq (g2 := F0 m 24 ls [.int (tl_I z3)]) rfl ?_
      refine lv_goto (tgt := 28) hx hb dX3_get_24 (by decide) ?_
      injection hf with hf
      subst hf
      exact W.iret (v := tl_I z3) hx hb hr (fun t ht hW => tl_fin hAe ⟨rfl, rfl⟩ (hP.sub (ws' := [tl_ob a_this 4 [.ref a_words, .ref a_lengths], tl_ia (cy 1) a_lengths 1000 v_lengths, tl_ja (cy 2) a_words 2000 v_words]) [1, 0, 2] rfl) hK (hD.sub (ws' := [tl_ob a_this 4 [.ref a_words, .ref a_lengths], tl_ia (cy 1) a_lengths 1000 v_lengths, tl_ja (cy 2) a_words 2000 v_words]) [1, 0, 2] (by decide) rfl) hS ht hW) hS.2.2 dX3_get_28
    · refine lv_iconst (v := tl_I (-1 : Int)) hx hb dX3_get_27 rfl ?_
      injection hf with hf
      subst hf
      exact W.iret (v := tl_I (-1 : Int)) hx hb hr (fun t ht hW => tl_fin hAe ⟨rfl, rfl⟩ (hP.sub (ws' := [tl_ob a_this 4 [.ref a_words, .ref a_lengths], tl_ia (cy 1) a_lengths 1000 v_lengths, tl_ja (cy 2) a_words 2000 v_words]) [1, 2, 0] rfl) hK (hD.sub (ws' := [tl_ob a_this 4 [.ref a_words, .ref a_lengths], tl_ia (cy 1) a_lengths 1000 v_lengths, tl_ja (cy 2) a_words 2000 v_words]) [1, 2, 0] (by decide) rfl) hS ht hW) hS.2.2 dX3_get_28
set_option maxHeartbeats 4000000 in
set_option maxRecDepth 100000 in
theorem kt_X3_holds (l : Launch) (D : va_G) (cy : Nat → ClassId) (a_this a_lengths a_words : Nat) (v_lengths : Nat → Int) (v_words : Nat → Int64) (p1 : Int) (p2 : Int) (p3 : Int) (z : Int) (hf : fX3_holds v_lengths v_words p1 p2 p3 = some z) :
    tl_MC l D (tl_tys cy) yX3_holds (tl_w yX3_holds cX3_holds 6 (some .boolean)) { frames := 2, cells := 0, slots := 0, locals := 43 } [.ref a_this, .int (tl_I p1), .int (tl_I p2), .int (tl_I p3)] [tl_ob a_this 4 [.ref a_words, .ref a_lengths], tl_ia (cy 1) a_lengths 1000 v_lengths, tl_ja (cy 2) a_words 2000 v_words] 0 0 (fun v w1 => v = some (.int (tl_I z)) ∧ w1 = [tl_ob a_this 4 [.ref a_words, .ref a_lengths], tl_ia (cy 1) a_lengths 1000 v_lengths, tl_ja (cy 2) a_words 2000 v_words]) := by
  refine tl_ofW (cc := cX3_holds) (maxL := 6) (ret := (some .boolean)) (by decide +kernel) (Nat.le_of_ble_eq_true rfl) ?_
  intro p e s m below meth c hx hb hr hml hts hown hlocks hnm A hAe hA hP hK hD hS ls hl
  have hl : lv_has ls 6 [(0, .ref a_this), (1, .int (tl_I p1)), (2, .int (tl_I p2)), (3, .int (tl_I p3))] := hl
  unfold fX3_holds at hf
  refine lv_aload_n hx hb dX3_holds_0 rfl (lv_at hl 0 rfl) ?_
  refine lv_iload_n hx hb dX3_holds_1 rfl (lv_at hl 1 rfl) ?_
  refine lv_iload_n hx hb dX3_holds_2 rfl (lv_at hl 2 rfl) ?_
  obtain ⟨z1, hz, hf⟩ := tl_bs hf
  refine tl_callV0 (As := [.int (tl_I p1), .int (tl_I p2)]) (rest := []) (wr := [tl_ja (cy 2) a_words 2000 v_words]) ⟨hx, hb, hml, hown, hts⟩ (kt_X3_lengthOf l D cy a_this a_lengths a_words v_lengths p1 p2 z1 hz) (cwV 2 hts tg_X3_27 rfl rfl rfl td_X3_lengthOf ⟨by decide, by decide⟩) hK hP hD hS hA [0, 1] [2] rfl rfl rfl rfl (by decide) 0 4 rfl rfl rfl rfl hl.1 rfl (Nat.le_of_ble_eq_true rfl) dX3_holds_3 ⟨by decide, by decide⟩ (fun v w1 H locs hp hP hD hS => ?_)
  obtain ⟨rfl, rfl⟩ := hp
  have hP : va_P D vwCl [tl_ja (cy 2) a_words 2000 v_words, tl_ob a_this 4 [.ref a_words, .ref a_lengths], tl_ia (cy 1) a_lengths 1000 v_lengths] H := hP
  have hD : va_D A [tl_ja (cy 2) a_words 2000 v_words, tl_ob a_this 4 [.ref a_words, .ref a_lengths], tl_ia (cy 1) a_lengths 1000 v_lengths] := hD
  refine W.eq (g2 := F0 m 6 ls [.int (tl_I z1)]) rfl ?_
  refine lv_istore (lv' := [(4, .int (tl_I z1)), (0, .ref a_this), (1, .int (tl_I p1)), (2, .int (tl_I p2)), (3, .int (tl_I p3))]) hx hb dX3_holds_6 hl (by decide) rfl (fun ls hl => ?_)
  refine lv_iconst (v := tl_I (0 : Int)) hx hb dX3_holds_8 rfl ?_
  refine lv_istore (lv' := [(5, .int (tl_I (0 : Int))), (4, .int (tl_I z1)), (0, .ref a_this), (1, .int (tl_I p1)), (2, .int (tl_I p2)), (3, .int (tl_I p3))]) hx hb dX3_holds_9 hl (by decide) rfl (fun ls hl => ?_)
  have lp1 : ∀ (n : Nat) (x2 : Int) (out : (Unit) ⊕ (Int)), fX3_holds_L1 v_words p1 p2 p3 z1 n x2 = some out → ∀ (H : Heap) (locs : List Loc) (ls : Array Slot), va_P D vwCl [tl_ob a_this 4 [.ref a_words, .ref a_lengths], tl_ia (cy 1) a_lengths 1000 v_lengths, tl_ja (cy 2) a_words 2000 v_words] H → va_D A [tl_ob a_this 4 [.ref a_words, .ref a_lengths], tl_ia (cy 1) a_lengths 1000 v_lengths, tl_ja (cy 2) a_words 2000 v_words] → va_S A s.heap H locs → lv_has ls 6 [(5, .int (tl_I x2)), (4, .int (tl_I z1)), (0, .ref a_this), (1, .int (tl_I p1)), (2, .int (tl_I p2)), (3, .int (tl_I p3))] → (out = .inl () → ∀ (H : Heap) (locs : List Loc) (ls : Array Slot), va_P D vwCl [tl_ob a_this 4 [.ref a_words, .ref a_lengths], tl_ia (cy 1) a_lengths 1000 v_lengths, tl_ja (cy 2) a_words 2000 v_words] H → va_D A [tl_ob a_this 4 [.ref a_words, .ref a_lengths], tl_ia (cy 1) a_lengths 1000 v_lengths, tl_ja (cy 2) a_words 2000 v_words] → va_S A s.heap H locs → lv_has ls 6 [] → W p l e { frames := 2, cells := 0, slots := 0, locals := 43 } s m ([.ref a_this, .int (tl_I p1), .int (tl_I p2), .int (tl_I p3)] : List Value).toArray below meth c H locs 0 0 (MQ below (tl_Q D (tl_tys cy) [tl_ob a_this 4 [.ref a_words, .ref a_lengths], tl_ia (cy 1) a_lengths 1000 v_lengths, tl_ja (cy 2) a_words 2000 v_words] s.heap.size (fun v w1 => v = some (.int (tl_I z)) ∧ w1 = [tl_ob a_this 4 [.ref a_words, .ref a_lengths], tl_ia (cy 1) a_lengths 1000 v_lengths, tl_ja (cy 2) a_words 2000 v_words])) ([.ref a_this, .int (tl_I p1), .int (tl_I p2), .int (tl_I p3)] : List Value).toArray s 0 0 A) (F0 m 41 ls [])) → (∀ r, out = .inr r → r = z) → W p l e { frames := 2, cells := 0, slots := 0, locals := 43 } s m ([.ref a_this, .int (tl_I p1), .int (tl_I p2), .int (tl_I p3)] : List Value).toArray below meth c H locs 0 0 (MQ below (tl_Q D (tl_tys cy) [tl_ob a_this 4 [.ref a_words, .ref a_lengths], tl_ia (cy 1) a_lengths 1000 v_lengths, tl_ja (cy 2) a_words 2000 v_words] s.heap.size (fun v w1 => v = some (.int (tl_I z)) ∧ w1 = [tl_ob a_this 4 [.ref a_words, .ref a_lengths], tl_ia (cy 1) a_lengths 1000 v_lengths, tl_ja (cy 2) a_words 2000 v_words])) ([.ref a_this, .int (tl_I p1), .int (tl_I p2), .int (tl_I p3)] : List Value).toArray s 0 0 A) (F0 m 11 ls []) := by
    intro n
    induction n with
    | zero =>
      intro x2 out hf
      cases hf
    | succ n ih =>
      intro x2 out hf H locs ls hP hD hS hl hE hX
      rw [fX3_holds_L1] at hf
      refine lv_iload hx hb dX3_holds_11 (lv_at hl 0 rfl) ?_
      refine lv_iload hx hb dX3_holds_13 (lv_at hl 1 rfl) ?_
      refine tr_icmp_ge (tgt := 41) hx hb hf dX3_holds_15 (by decide) (fun hc hf => ?_) (fun hc hf => ?_)
      · refine lv_aload_n hx hb dX3_holds_18 rfl (lv_at hl 2 rfl) ?_
        refine lv_iload_n hx hb dX3_holds_19 rfl (lv_at hl 3 rfl) ?_
        refine lv_iload_n hx hb dX3_holds_20 rfl (lv_at hl 4 rfl) ?_
        obtain ⟨z3, hz, hf⟩ := tl_bs hf
        refine tl_callS0 (As := [.int (tl_I p1), .int (tl_I p2)]) (rest := [.ref a_this]) (wr := [tl_ob a_this 4 [.ref a_words, .ref a_lengths], tl_ia (cy 1) a_lengths 1000 v_lengths, tl_ja (cy 2) a_words 2000 v_words]) ⟨hx, hb, hml, hown, hts⟩ (kt_X3_rowOf l D cy p1 p2 z3 hz) (va_cwS 2 hts tg_X3_23 rfl rfl rfl td_X3_rowOf ⟨by decide, by decide⟩) hK hP hD hS hA [] [0, 1, 2] rfl rfl rfl rfl (by decide) rfl hl.1 rfl (Nat.le_of_ble_eq_true rfl) dX3_holds_21 ⟨by decide, by decide⟩ (fun v w1 H locs hp hP hD hS => ?_)
        obtain ⟨rfl, rfl⟩ := hp
        have hP : va_P D vwCl [tl_ob a_this 4 [.ref a_words, .ref a_lengths], tl_ia (cy 1) a_lengths 1000 v_lengths, tl_ja (cy 2) a_words 2000 v_words] H := hP
        have hD : va_D A [tl_ob a_this 4 [.ref a_words, .ref a_lengths], tl_ia (cy 1) a_lengths 1000 v_lengths, tl_ja (cy 2) a_words 2000 v_words] := hD
        refine W.eq (g2 := F0 m 24 ls [.int (tl_I z3), .ref a_this]) rfl ?_
        refine lv_iload hx hb dX3_holds_24 (lv_at hl 0 rfl) ?_
        obtain ⟨z4, hz, hf⟩ := tl_bs hf
        refine tl_callV0 (As := [.int (tl_I z3), .int (tl_I x2)]) (rest := []) (wr := [tl_ia (cy 1) a_lengths 1000 v_lengths]) ⟨hx, hb, hml, hown, hts⟩ (kt_X3_read l D cy a_this a_words a_lengths v_words z3 x2 z4 hz) (cwV 2 hts tg_X3_30 rfl rfl rfl td_X3_read ⟨by decide, by decide⟩) hK hP hD hS hA [0, 2] [1] rfl rfl rfl rfl (by decide) 0 4 rfl rfl rfl rfl hl.1 rfl (Nat.le_of_ble_eq_true rfl) dX3_holds_26 ⟨by decide, by decide⟩ (fun v w1 H locs hp hP hD hS => ?_)
        obtain ⟨rfl, rfl⟩ := hp
        have hP : va_P D vwCl [tl_ia (cy 1) a_lengths 1000 v_lengths, tl_ob a_this 4 [.ref a_words, .ref a_lengths], tl_ja (cy 2) a_words 2000 v_words] H := hP
        have hD : va_D A [tl_ia (cy 1) a_lengths 1000 v_lengths, tl_ob a_this 4 [.ref a_words, .ref a_lengths], tl_ja (cy 2) a_words 2000 v_words] := hD
        refine W.eq (g2 := F0 m 29 ls [.int (tl_I z4)]) rfl ?_
        refine lv_iload_n hx hb dX3_holds_29 rfl (lv_at hl 5 rfl) ?_
        refine tr_icmp_ne (tgt := 35) hx hb hf dX3_holds_30 (by decide) (fun hc hf => ?_) (fun hc hf => ?_)
        · refine lv_iconst (v := tl_I (1 : Int)) hx hb dX3_holds_33 rfl ?_
          injection hf with hf
          subst hf
          have hf := hX _ rfl
          subst hf
          exact W.zret (v := tl_I (1 : Int)) hx hb hr rfl (fun t ht hW => tl_fin hAe ⟨rfl, rfl⟩ (hP.sub (ws' := [tl_ob a_this 4 [.ref a_words, .ref a_lengths], tl_ia (cy 1) a_lengths 1000 v_lengths, tl_ja (cy 2) a_words 2000 v_words]) [1, 0, 2] rfl) hK (hD.sub (ws' := [tl_ob a_this 4 [.ref a_words, .ref a_lengths], tl_ia (cy 1) a_lengths 1000 v_lengths, tl_ja (cy 2) a_words 2000 v_words]) [1, 0, 2] (by decide) rfl) hS ht hW) hS.2.2 dX3_holds_34
        · refine lv_iinc (v := tl_I (x2 + 1)) (lv' := [(5, .int (tl_I (x2 + 1))), (4, .int (tl_I z1)), (0, .ref a_this), (1, .int (tl_I p1)), (2, .int (tl_I p2)), (3, .int (tl_I p3))]) hx hb dX3_holds_35 hl (k := 0) rfl (tl_add _ _) (by decide) rfl (fun ls hl => ?_)
          refine lv_goto (tgt := 11) hx hb dX3_holds_38 (by decide) ?_
          exact ih (x2 + 1) out hf _ _ _ (hP.sub (ws' := [tl_ob a_this 4 [.ref a_words, .ref a_lengths], tl_ia (cy 1) a_lengths 1000 v_lengths, tl_ja (cy 2) a_words 2000 v_words]) [1, 0, 2] rfl) (hD.sub (ws' := [tl_ob a_this 4 [.ref a_words, .ref a_lengths], tl_ia (cy 1) a_lengths 1000 v_lengths, tl_ja (cy 2) a_words 2000 v_words]) [1, 0, 2] (by decide) rfl) hS (lv_sub hl [0, 1, 2, 3, 4, 5] rfl) hE hX
      · injection hf with hf
        subst hf
        exact hE  rfl _ _ _ (hP.sub (ws' := [tl_ob a_this 4 [.ref a_words, .ref a_lengths], tl_ia (cy 1) a_lengths 1000 v_lengths, tl_ja (cy 2) a_words 2000 v_words]) [0, 1, 2] rfl) (hD.sub (ws' := [tl_ob a_this 4 [.ref a_words, .ref a_lengths], tl_ia (cy 1) a_lengths 1000 v_lengths, tl_ja (cy 2) a_words 2000 v_words]) [0, 1, 2] (by decide) rfl) hS (lv_sub hl [] rfl)
  obtain ⟨o, hz, hf⟩ := tl_bs hf
  refine lp1 tl_N (0 : Int) o hz _ _ _ (hP.sub (ws' := [tl_ob a_this 4 [.ref a_words, .ref a_lengths], tl_ia (cy 1) a_lengths 1000 v_lengths, tl_ja (cy 2) a_words 2000 v_words]) [1, 2, 0] rfl) (hD.sub (ws' := [tl_ob a_this 4 [.ref a_words, .ref a_lengths], tl_ia (cy 1) a_lengths 1000 v_lengths, tl_ja (cy 2) a_words 2000 v_words]) [1, 2, 0] (by decide) rfl) hS (lv_sub hl [0, 1, 2, 3, 4, 5] rfl) ?_ ?_
  · intro  ho H locs ls hP hD hS hl
    subst ho
    try dsimp only at hf
    refine lv_iconst (v := tl_I (0 : Int)) hx hb dX3_holds_41 rfl ?_
    injection hf with hf
    subst hf
    exact W.zret (v := tl_I (0 : Int)) hx hb hr rfl (fun t ht hW => tl_fin hAe ⟨rfl, rfl⟩ (hP.sub (ws' := [tl_ob a_this 4 [.ref a_words, .ref a_lengths], tl_ia (cy 1) a_lengths 1000 v_lengths, tl_ja (cy 2) a_words 2000 v_words]) [0, 1, 2] rfl) hK (hD.sub (ws' := [tl_ob a_this 4 [.ref a_words, .ref a_lengths], tl_ia (cy 1) a_lengths 1000 v_lengths, tl_ja (cy 2) a_words 2000 v_words]) [0, 1, 2] (by decide) rfl) hS ht hW) hS.2.2 dX3_holds_42
  · intro r ho
    subst ho
    dsimp only at hf
    injection hf
set_option maxHeartbeats 4000000 in
set_option maxRecDepth 100000 in
theorem kt_X3_addTo (l : Launch) (D : va_G) (cy : Nat → ClassId) (a_this a_lengths a_words a_p1 a_p1_inside a_p1_list : Nat) (v_lengths : Nat → Int) (v_words : Nat → Int64) (v_p1_length : Int) (v_p1_inside : Nat → Int) (v_p1_list : Nat → Int) (p2 : Int) (p3 : Int) (z : (Nat → Int) × (Nat → Int) × Int) (hf : fX3_addTo v_lengths v_words v_p1_length v_p1_inside v_p1_list p2 p3 = some z) :
    tl_MC l D (tl_tys cy) yX3_addTo (tl_w yX3_addTo cX3_addTo 6 none) { frames := 2, cells := 0, slots := 0, locals := 43 } [.ref a_this, .ref a_p1, .int (tl_I p2), .int (tl_I p3)] [tl_ob a_this 4 [.ref a_words, .ref a_lengths], tl_ia (cy 1) a_lengths 1000 v_lengths, tl_ja (cy 2) a_words 2000 v_words, tl_ob a_p1 5 [.ref a_p1_inside, .ref a_p1_list, .int (tl_I v_p1_length)], tl_ia (cy 3) a_p1_inside 100 v_p1_inside, tl_ia (cy 1) a_p1_list 100 v_p1_list] 0 0 (fun v w1 => v = none ∧ w1 = [tl_ob a_this 4 [.ref a_words, .ref a_lengths], tl_ia (cy 1) a_lengths 1000 v_lengths, tl_ja (cy 2) a_words 2000 v_words, tl_ob a_p1 5 [.ref a_p1_inside, .ref a_p1_list, .int (tl_I z.2.2)], tl_ia (cy 3) a_p1_inside 100 z.1, tl_ia (cy 1) a_p1_list 100 z.2.1]) := by
  refine tl_ofW (cc := cX3_addTo) (maxL := 6) (ret := none) (by decide +kernel) (Nat.le_of_ble_eq_true rfl) ?_
  intro p e s m below meth c hx hb hr hml hts hown hlocks hnm A hAe hA hP hK hD hS ls hl
  have hl : lv_has ls 6 [(0, .ref a_this), (1, .ref a_p1), (2, .int (tl_I p2)), (3, .int (tl_I p3))] := hl
  unfold fX3_addTo at hf
  refine lv_aload_n hx hb dX3_addTo_0 rfl (lv_at hl 0 rfl) ?_
  refine lv_iload_n hx hb dX3_addTo_1 rfl (lv_at hl 2 rfl) ?_
  refine lv_iload_n hx hb dX3_addTo_2 rfl (lv_at hl 3 rfl) ?_
  obtain ⟨z1, hz, hf⟩ := tl_bs hf
  refine tl_callV0 (As := [.int (tl_I p2), .int (tl_I p3)]) (rest := []) (wr := [tl_ja (cy 2) a_words 2000 v_words, tl_ob a_p1 5 [.ref a_p1_inside, .ref a_p1_list, .int (tl_I v_p1_length)], tl_ia (cy 3) a_p1_inside 100 v_p1_inside, tl_ia (cy 1) a_p1_list 100 v_p1_list]) ⟨hx, hb, hml, hown, hts⟩ (kt_X3_lengthOf l D cy a_this a_lengths a_words v_lengths p2 p3 z1 hz) (cwV 2 hts tg_X3_27 rfl rfl rfl td_X3_lengthOf ⟨by decide, by decide⟩) hK hP hD hS hA [0, 1] [2, 3, 4, 5] rfl rfl rfl rfl (by decide) 0 4 rfl rfl rfl rfl hl.1 rfl (Nat.le_of_ble_eq_true rfl) dX3_addTo_3 ⟨by decide, by decide⟩ (fun v w1 H locs hp hP hD hS => ?_)
  obtain ⟨rfl, rfl⟩ := hp
  have hP : va_P D vwCl [tl_ja (cy 2) a_words 2000 v_words, tl_ob a_p1 5 [.ref a_p1_inside, .ref a_p1_list, .int (tl_I v_p1_length)], tl_ia (cy 3) a_p1_inside 100 v_p1_inside, tl_ia (cy 1) a_p1_list 100 v_p1_list, tl_ob a_this 4 [.ref a_words, .ref a_lengths], tl_ia (cy 1) a_lengths 1000 v_lengths] H := hP
  have hD : va_D A [tl_ja (cy 2) a_words 2000 v_words, tl_ob a_p1 5 [.ref a_p1_inside, .ref a_p1_list, .int (tl_I v_p1_length)], tl_ia (cy 3) a_p1_inside 100 v_p1_inside, tl_ia (cy 1) a_p1_list 100 v_p1_list, tl_ob a_this 4 [.ref a_words, .ref a_lengths], tl_ia (cy 1) a_lengths 1000 v_lengths] := hD
  refine W.eq (g2 := F0 m 6 ls [.int (tl_I z1)]) rfl ?_
  refine lv_istore (lv' := [(4, .int (tl_I z1)), (0, .ref a_this), (1, .ref a_p1), (2, .int (tl_I p2)), (3, .int (tl_I p3))]) hx hb dX3_addTo_6 hl (by decide) rfl (fun ls hl => ?_)
  refine lv_iconst (v := tl_I (0 : Int)) hx hb dX3_addTo_8 rfl ?_
  refine lv_istore (lv' := [(5, .int (tl_I (0 : Int))), (4, .int (tl_I z1)), (0, .ref a_this), (1, .ref a_p1), (2, .int (tl_I p2)), (3, .int (tl_I p3))]) hx hb dX3_addTo_9 hl (by decide) rfl (fun ls hl => ?_)
  have lp1 : ∀ (n : Nat) (x2 : Int) (x3 : Int) (x4 : Nat → Int) (x5 : Nat → Int) (out : Int × (Nat → Int) × (Nat → Int)), fX3_addTo_L1 v_words p2 p3 z1 n x2 x3 x4 x5 = some out → ∀ (H : Heap) (locs : List Loc) (ls : Array Slot), va_P D vwCl [tl_ob a_this 4 [.ref a_words, .ref a_lengths], tl_ia (cy 1) a_lengths 1000 v_lengths, tl_ja (cy 2) a_words 2000 v_words, tl_ob a_p1 5 [.ref a_p1_inside, .ref a_p1_list, .int (tl_I x3)], tl_ia (cy 3) a_p1_inside 100 x4, tl_ia (cy 1) a_p1_list 100 x5] H → va_D A [tl_ob a_this 4 [.ref a_words, .ref a_lengths], tl_ia (cy 1) a_lengths 1000 v_lengths, tl_ja (cy 2) a_words 2000 v_words, tl_ob a_p1 5 [.ref a_p1_inside, .ref a_p1_list, .int (tl_I x3)], tl_ia (cy 3) a_p1_inside 100 x4, tl_ia (cy 1) a_p1_list 100 x5] → va_S A s.heap H locs → lv_has ls 6 [(5, .int (tl_I x2)), (4, .int (tl_I z1)), (0, .ref a_this), (1, .ref a_p1), (2, .int (tl_I p2)), (3, .int (tl_I p3))] → (∀ (x3 : Int) (x4 : Nat → Int) (x5 : Nat → Int), out = (x3, x4, x5) → ∀ (H : Heap) (locs : List Loc) (ls : Array Slot), va_P D vwCl [tl_ob a_this 4 [.ref a_words, .ref a_lengths], tl_ia (cy 1) a_lengths 1000 v_lengths, tl_ja (cy 2) a_words 2000 v_words, tl_ob a_p1 5 [.ref a_p1_inside, .ref a_p1_list, .int (tl_I x3)], tl_ia (cy 3) a_p1_inside 100 x4, tl_ia (cy 1) a_p1_list 100 x5] H → va_D A [tl_ob a_this 4 [.ref a_words, .ref a_lengths], tl_ia (cy 1) a_lengths 1000 v_lengths, tl_ja (cy 2) a_words 2000 v_words, tl_ob a_p1 5 [.ref a_p1_inside, .ref a_p1_list, .int (tl_I x3)], tl_ia (cy 3) a_p1_inside 100 x4, tl_ia (cy 1) a_p1_list 100 x5] → va_S A s.heap H locs → lv_has ls 6 [] → W p l e { frames := 2, cells := 0, slots := 0, locals := 43 } s m ([.ref a_this, .ref a_p1, .int (tl_I p2), .int (tl_I p3)] : List Value).toArray below meth c H locs 0 0 (MQ below (tl_Q D (tl_tys cy) [tl_ob a_this 4 [.ref a_words, .ref a_lengths], tl_ia (cy 1) a_lengths 1000 v_lengths, tl_ja (cy 2) a_words 2000 v_words, tl_ob a_p1 5 [.ref a_p1_inside, .ref a_p1_list, .int (tl_I v_p1_length)], tl_ia (cy 3) a_p1_inside 100 v_p1_inside, tl_ia (cy 1) a_p1_list 100 v_p1_list] s.heap.size (fun v w1 => v = none ∧ w1 = [tl_ob a_this 4 [.ref a_words, .ref a_lengths], tl_ia (cy 1) a_lengths 1000 v_lengths, tl_ja (cy 2) a_words 2000 v_words, tl_ob a_p1 5 [.ref a_p1_inside, .ref a_p1_list, .int (tl_I z.2.2)], tl_ia (cy 3) a_p1_inside 100 z.1, tl_ia (cy 1) a_p1_list 100 z.2.1])) ([.ref a_this, .ref a_p1, .int (tl_I p2), .int (tl_I p3)] : List Value).toArray s 0 0 A) (F0 m 39 ls [])) → W p l e { frames := 2, cells := 0, slots := 0, locals := 43 } s m ([.ref a_this, .ref a_p1, .int (tl_I p2), .int (tl_I p3)] : List Value).toArray below meth c H locs 0 0 (MQ below (tl_Q D (tl_tys cy) [tl_ob a_this 4 [.ref a_words, .ref a_lengths], tl_ia (cy 1) a_lengths 1000 v_lengths, tl_ja (cy 2) a_words 2000 v_words, tl_ob a_p1 5 [.ref a_p1_inside, .ref a_p1_list, .int (tl_I v_p1_length)], tl_ia (cy 3) a_p1_inside 100 v_p1_inside, tl_ia (cy 1) a_p1_list 100 v_p1_list] s.heap.size (fun v w1 => v = none ∧ w1 = [tl_ob a_this 4 [.ref a_words, .ref a_lengths], tl_ia (cy 1) a_lengths 1000 v_lengths, tl_ja (cy 2) a_words 2000 v_words, tl_ob a_p1 5 [.ref a_p1_inside, .ref a_p1_list, .int (tl_I z.2.2)], tl_ia (cy 3) a_p1_inside 100 z.1, tl_ia (cy 1) a_p1_list 100 z.2.1])) ([.ref a_this, .ref a_p1, .int (tl_I p2), .int (tl_I p3)] : List Value).toArray s 0 0 A) (F0 m 11 ls []) := by
    intro n
    induction n with
    | zero =>
      intro x2 x3 x4 x5 out hf
      cases hf
    | succ n ih =>
      intro x2 x3 x4 x5 out hf H locs ls hP hD hS hl hE
      rw [fX3_addTo_L1] at hf
      refine lv_iload hx hb dX3_addTo_11 (lv_at hl 0 rfl) ?_
      refine lv_iload hx hb dX3_addTo_13 (lv_at hl 1 rfl) ?_
      refine tr_icmp_ge (tgt := 39) hx hb hf dX3_addTo_15 (by decide) (fun hc hf => ?_) (fun hc hf => ?_)
      · refine lv_aload_n hx hb dX3_addTo_18 rfl (lv_at hl 3 rfl) ?_
        refine lv_aload_n hx hb dX3_addTo_19 rfl (lv_at hl 2 rfl) ?_
        refine lv_iload_n hx hb dX3_addTo_20 rfl (lv_at hl 4 rfl) ?_
        refine lv_iload_n hx hb dX3_addTo_21 rfl (lv_at hl 5 rfl) ?_
        obtain ⟨z6, hz, hf⟩ := tl_bs hf
        refine tl_callS0 (As := [.int (tl_I p2), .int (tl_I p3)]) (rest := [.ref a_this, .ref a_p1]) (wr := [tl_ob a_this 4 [.ref a_words, .ref a_lengths], tl_ia (cy 1) a_lengths 1000 v_lengths, tl_ja (cy 2) a_words 2000 v_words, tl_ob a_p1 5 [.ref a_p1_inside, .ref a_p1_list, .int (tl_I x3)], tl_ia (cy 3) a_p1_inside 100 x4, tl_ia (cy 1) a_p1_list 100 x5]) ⟨hx, hb, hml, hown, hts⟩ (kt_X3_rowOf l D cy p2 p3 z6 hz) (va_cwS 2 hts tg_X3_23 rfl rfl rfl td_X3_rowOf ⟨by decide, by decide⟩) hK hP hD hS hA [] [0, 1, 2, 3, 4, 5] rfl rfl rfl rfl (by decide) rfl hl.1 rfl (Nat.le_of_ble_eq_true rfl) dX3_addTo_22 ⟨by decide, by decide⟩ (fun v w1 H locs hp hP hD hS => ?_)
        obtain ⟨rfl, rfl⟩ := hp
        have hP : va_P D vwCl [tl_ob a_this 4 [.ref a_words, .ref a_lengths], tl_ia (cy 1) a_lengths 1000 v_lengths, tl_ja (cy 2) a_words 2000 v_words, tl_ob a_p1 5 [.ref a_p1_inside, .ref a_p1_list, .int (tl_I x3)], tl_ia (cy 3) a_p1_inside 100 x4, tl_ia (cy 1) a_p1_list 100 x5] H := hP
        have hD : va_D A [tl_ob a_this 4 [.ref a_words, .ref a_lengths], tl_ia (cy 1) a_lengths 1000 v_lengths, tl_ja (cy 2) a_words 2000 v_words, tl_ob a_p1 5 [.ref a_p1_inside, .ref a_p1_list, .int (tl_I x3)], tl_ia (cy 3) a_p1_inside 100 x4, tl_ia (cy 1) a_p1_list 100 x5] := hD
        refine W.eq (g2 := F0 m 25 ls [.int (tl_I z6), .ref a_this, .ref a_p1]) rfl ?_
        refine lv_iload hx hb dX3_addTo_25 (lv_at hl 0 rfl) ?_
        obtain ⟨z7, hz, hf⟩ := tl_bs hf
        refine tl_callV0 (As := [.int (tl_I z6), .int (tl_I x2)]) (rest := [.ref a_p1]) (wr := [tl_ia (cy 1) a_lengths 1000 v_lengths, tl_ob a_p1 5 [.ref a_p1_inside, .ref a_p1_list, .int (tl_I x3)], tl_ia (cy 3) a_p1_inside 100 x4, tl_ia (cy 1) a_p1_list 100 x5]) ⟨hx, hb, hml, hown, hts⟩ (kt_X3_read l D cy a_this a_words a_lengths v_words z6 x2 z7 hz) (cwV 2 hts tg_X3_30 rfl rfl rfl td_X3_read ⟨by decide, by decide⟩) hK hP hD hS hA [0, 2] [1, 3, 4, 5] rfl rfl rfl rfl (by decide) 0 4 rfl rfl rfl rfl hl.1 rfl (Nat.le_of_ble_eq_true rfl) dX3_addTo_27 ⟨by decide, by decide⟩ (fun v w1 H locs hp hP hD hS => ?_)
        obtain ⟨rfl, rfl⟩ := hp
        have hP : va_P D vwCl [tl_ia (cy 1) a_lengths 1000 v_lengths, tl_ob a_p1 5 [.ref a_p1_inside, .ref a_p1_list, .int (tl_I x3)], tl_ia (cy 3) a_p1_inside 100 x4, tl_ia (cy 1) a_p1_list 100 x5, tl_ob a_this 4 [.ref a_words, .ref a_lengths], tl_ja (cy 2) a_words 2000 v_words] H := hP
        have hD : va_D A [tl_ia (cy 1) a_lengths 1000 v_lengths, tl_ob a_p1 5 [.ref a_p1_inside, .ref a_p1_list, .int (tl_I x3)], tl_ia (cy 3) a_p1_inside 100 x4, tl_ia (cy 1) a_p1_list 100 x5, tl_ob a_this 4 [.ref a_words, .ref a_lengths], tl_ja (cy 2) a_words 2000 v_words] := hD
        refine W.eq (g2 := F0 m 30 ls [.int (tl_I z7), .ref a_p1]) rfl ?_
        obtain ⟨z8, hz, hf⟩ := tl_bs hf
        refine tl_callV0 (As := [.int (tl_I z7)]) (rest := []) (wr := [tl_ia (cy 1) a_lengths 1000 v_lengths, tl_ob a_this 4 [.ref a_words, .ref a_lengths], tl_ja (cy 2) a_words 2000 v_words]) ⟨hx, hb, hml, hown, hts⟩ (kt_X4_add l D cy a_p1 a_p1_inside a_p1_list x3 x4 x5 z7 z8 hz) (cwV 1 hts tg_X3_33 rfl rfl rfl td_X4_add ⟨by decide, by decide⟩) hK hP hD hS hA [1, 2, 3] [0, 4, 5] rfl rfl rfl rfl (by decide) 1 5 rfl rfl rfl rfl hl.1 rfl (Nat.le_of_ble_eq_true rfl) dX3_addTo_30 ⟨by decide, by decide⟩ (fun v w1 H locs hp hP hD hS => ?_)
        obtain ⟨rfl, rfl⟩ := hp
        have hP : va_P D vwCl [tl_ia (cy 1) a_lengths 1000 v_lengths, tl_ob a_this 4 [.ref a_words, .ref a_lengths], tl_ja (cy 2) a_words 2000 v_words, tl_ob a_p1 5 [.ref a_p1_inside, .ref a_p1_list, .int (tl_I z8.2.2)], tl_ia (cy 3) a_p1_inside 100 z8.1, tl_ia (cy 1) a_p1_list 100 z8.2.1] H := hP
        have hD : va_D A [tl_ia (cy 1) a_lengths 1000 v_lengths, tl_ob a_this 4 [.ref a_words, .ref a_lengths], tl_ja (cy 2) a_words 2000 v_words, tl_ob a_p1 5 [.ref a_p1_inside, .ref a_p1_list, .int (tl_I z8.2.2)], tl_ia (cy 3) a_p1_inside 100 z8.1, tl_ia (cy 1) a_p1_list 100 z8.2.1] := hD
        refine W.eq (g2 := F0 m 33 ls []) rfl ?_
        refine lv_iinc (v := tl_I (x2 + 1)) (lv' := [(5, .int (tl_I (x2 + 1))), (4, .int (tl_I z1)), (0, .ref a_this), (1, .ref a_p1), (2, .int (tl_I p2)), (3, .int (tl_I p3))]) hx hb dX3_addTo_33 hl (k := 0) rfl (tl_add _ _) (by decide) rfl (fun ls hl => ?_)
        refine lv_goto (tgt := 11) hx hb dX3_addTo_36 (by decide) ?_
        exact ih (x2 + 1) z8.2.2 z8.1 z8.2.1 out hf _ _ _ (hP.sub (ws' := [tl_ob a_this 4 [.ref a_words, .ref a_lengths], tl_ia (cy 1) a_lengths 1000 v_lengths, tl_ja (cy 2) a_words 2000 v_words, tl_ob a_p1 5 [.ref a_p1_inside, .ref a_p1_list, .int (tl_I z8.2.2)], tl_ia (cy 3) a_p1_inside 100 z8.1, tl_ia (cy 1) a_p1_list 100 z8.2.1]) [1, 0, 2, 3, 4, 5] rfl) (hD.sub (ws' := [tl_ob a_this 4 [.ref a_words, .ref a_lengths], tl_ia (cy 1) a_lengths 1000 v_lengths, tl_ja (cy 2) a_words 2000 v_words, tl_ob a_p1 5 [.ref a_p1_inside, .ref a_p1_list, .int (tl_I z8.2.2)], tl_ia (cy 3) a_p1_inside 100 z8.1, tl_ia (cy 1) a_p1_list 100 z8.2.1]) [1, 0, 2, 3, 4, 5] (by decide) rfl) hS (lv_sub hl [0, 1, 2, 3, 4, 5] rfl) hE
      · injection hf with hf
        subst hf
        exact hE x3 x4 x5 rfl _ _ _ (hP.sub (ws' := [tl_ob a_this 4 [.ref a_words, .ref a_lengths], tl_ia (cy 1) a_lengths 1000 v_lengths, tl_ja (cy 2) a_words 2000 v_words, tl_ob a_p1 5 [.ref a_p1_inside, .ref a_p1_list, .int (tl_I x3)], tl_ia (cy 3) a_p1_inside 100 x4, tl_ia (cy 1) a_p1_list 100 x5]) [0, 1, 2, 3, 4, 5] rfl) (hD.sub (ws' := [tl_ob a_this 4 [.ref a_words, .ref a_lengths], tl_ia (cy 1) a_lengths 1000 v_lengths, tl_ja (cy 2) a_words 2000 v_words, tl_ob a_p1 5 [.ref a_p1_inside, .ref a_p1_list, .int (tl_I x3)], tl_ia (cy 3) a_p1_inside 100 x4, tl_ia (cy 1) a_p1_list 100 x5]) [0, 1, 2, 3, 4, 5] (by decide) rfl) hS (lv_sub hl [] rfl)
  obtain ⟨o, hz, hf⟩ := tl_bs hf
  refine lp1 tl_N (0 : Int) v_p1_length v_p1_inside v_p1_list o hz _ _ _ (hP.sub (ws' := [tl_ob a_this 4 [.ref a_words, .ref a_lengths], tl_ia (cy 1) a_lengths 1000 v_lengths, tl_ja (cy 2) a_words 2000 v_words, tl_ob a_p1 5 [.ref a_p1_inside, .ref a_p1_list, .int (tl_I v_p1_length)], tl_ia (cy 3) a_p1_inside 100 v_p1_inside, tl_ia (cy 1) a_p1_list 100 v_p1_list]) [4, 5, 0, 1, 2, 3] rfl) (hD.sub (ws' := [tl_ob a_this 4 [.ref a_words, .ref a_lengths], tl_ia (cy 1) a_lengths 1000 v_lengths, tl_ja (cy 2) a_words 2000 v_words, tl_ob a_p1 5 [.ref a_p1_inside, .ref a_p1_list, .int (tl_I v_p1_length)], tl_ia (cy 3) a_p1_inside 100 v_p1_inside, tl_ia (cy 1) a_p1_list 100 v_p1_list]) [4, 5, 0, 1, 2, 3] (by decide) rfl) hS (lv_sub hl [0, 1, 2, 3, 4, 5] rfl) ?_
  intro x3 x4 x5 ho H locs ls hP hD hS hl
  subst ho
  try dsimp only at hf
  injection hf with hf
  subst hf
  exact W.vret hx hb hr (fun t ht hW => tl_fin hAe ⟨rfl, rfl⟩ (hP.sub (ws' := [tl_ob a_this 4 [.ref a_words, .ref a_lengths], tl_ia (cy 1) a_lengths 1000 v_lengths, tl_ja (cy 2) a_words 2000 v_words, tl_ob a_p1 5 [.ref a_p1_inside, .ref a_p1_list, .int (tl_I x3)], tl_ia (cy 3) a_p1_inside 100 x4, tl_ia (cy 1) a_p1_list 100 x5]) [0, 1, 2, 3, 4, 5] rfl) hK (hD.sub (ws' := [tl_ob a_this 4 [.ref a_words, .ref a_lengths], tl_ia (cy 1) a_lengths 1000 v_lengths, tl_ja (cy 2) a_words 2000 v_words, tl_ob a_p1 5 [.ref a_p1_inside, .ref a_p1_list, .int (tl_I x3)], tl_ia (cy 3) a_p1_inside 100 x4, tl_ia (cy 1) a_p1_list 100 x5]) [0, 1, 2, 3, 4, 5] (by decide) rfl) hS ht hW) hS.2.2 dX3_addTo_39
set_option maxHeartbeats 4000000 in
set_option maxRecDepth 100000 in
theorem kt_X3_write (l : Launch) (D : va_G) (cy : Nat → ClassId) (a_this a_words a_lengths : Nat) (v_words : Nat → Int64) (p1 : Int) (p2 : Int) (p3 : Int) (z : Nat → Int64) (hf : fX3_write v_words p1 p2 p3 = some z) :
    tl_MC l D (tl_tys cy) yX3_write (tl_w yX3_write cX3_write 8 none) { frames := 0, cells := 0, slots := 0, locals := 0 } [.ref a_this, .int (tl_I p1), .int (tl_I p2), .int (tl_I p3)] [tl_ob a_this 4 [.ref a_words, .ref a_lengths], tl_ja (cy 2) a_words 2000 v_words] 0 0 (fun v w1 => v = none ∧ w1 = [tl_ob a_this 4 [.ref a_words, .ref a_lengths], tl_ja (cy 2) a_words 2000 z]) := by
  refine tl_ofW (cc := cX3_write) (maxL := 8) (ret := none) (by decide +kernel) (Nat.le_of_ble_eq_true rfl) ?_
  intro p e s m below meth c hx hb hr hml hts hown hlocks hnm A hAe hA hP hK hD hS ls hl
  have hl : lv_has ls 8 [(0, .ref a_this), (1, .int (tl_I p1)), (2, .int (tl_I p2)), (3, .int (tl_I p3))] := hl
  unfold fX3_write at hf
  refine lv_iload_n hx hb dX3_write_0 rfl (lv_at hl 1 rfl) ?_
  refine lv_iconst (v := tl_I (2 : Int)) hx hb dX3_write_1 rfl ?_
  refine tr_imul hx hb dX3_write_2 ?_
  refine lv_iload_n hx hb dX3_write_3 rfl (lv_at hl 2 rfl) ?_
  refine lv_bipush (v := tl_I (6 : Int)) hx hb dX3_write_4 rfl ?_
  refine tr_idiv hx hb hf dX3_write_6 (fun hf => ?_)
  refine tr_iadd hx hb dX3_write_7 ?_
  refine lv_istore (lv' := [(4, .int (tl_I ((p1 * (2 : Int)) + (p2 / (6 : Int))))), (0, .ref a_this), (1, .int (tl_I p1)), (2, .int (tl_I p2)), (3, .int (tl_I p3))]) hx hb dX3_write_8 hl (by decide) rfl (fun ls hl => ?_)
  refine lv_iload_n hx hb dX3_write_10 rfl (lv_at hl 3 rfl) ?_
  refine lv_bipush (v := tl_I (6 : Int)) hx hb dX3_write_11 rfl ?_
  refine tr_irem hx hb hf dX3_write_13 (fun hf => ?_)
  refine lv_bipush (v := tl_I (8 : Int)) hx hb dX3_write_14 rfl ?_
  refine tr_imul hx hb dX3_write_16 ?_
  refine lv_istore (lv' := [(5, .int (tl_I ((p2 % (6 : Int)) * (8 : Int)))), (4, .int (tl_I ((p1 * (2 : Int)) + (p2 / (6 : Int))))), (0, .ref a_this), (1, .int (tl_I p1)), (2, .int (tl_I p2)), (3, .int (tl_I p3))]) hx hb dX3_write_17 hl (by decide) rfl (fun ls hl => ?_)
  refine lv_aload_n hx hb dX3_write_19 rfl (lv_at hl 2 rfl) ?_
  refine va_get (ci := 4) (v := .ref a_words) (C := RX3) (T := TX3) (N := 2) hx hb hts in_X3 hown hK hP 0 rfl rfl 0 (by decide) (hts _ tw_241) (fun _ h9 => h9) rfl dX3_write_20 ?_
  refine lv_iload hx hb dX3_write_23 (lv_at hl 1 rfl) ?_
  refine tr_lald hx hb hf hK hP 1 2 rfl rfl (by decide) dX3_write_25 (fun hf => ?_)
  refine lv_ldc2 (v := 255) hx hb hown (hts _ tw_529) dX3_write_26 ?_
  refine lv_iload hx hb dX3_write_29 (lv_at hl 0 rfl) ?_
  refine lv_lshl (v := tl_lshl (255 : Int64) ((p2 % (6 : Int)) * (8 : Int))) hx hb dX3_write_31 rfl ?_
  refine lv_ldc2 (v := -1) hx hb hown (hts _ tw_563) dX3_write_32 ?_
  refine lv_lxor hx hb dX3_write_35 ?_
  refine lv_land hx hb dX3_write_36 ?_
  refine lv_lstore (lv' := [(6, .long ((v_words ((p1 * (2 : Int)) + (p2 / (6 : Int))).toNat) &&& ((tl_lshl (255 : Int64) ((p2 % (6 : Int)) * (8 : Int))) ^^^ (-1 : Int64)))), (5, .int (tl_I ((p2 % (6 : Int)) * (8 : Int)))), (4, .int (tl_I ((p1 * (2 : Int)) + (p2 / (6 : Int))))), (0, .ref a_this), (1, .int (tl_I p1)), (2, .int (tl_I p2)), (3, .int (tl_I p3))]) hx hb dX3_write_37 hl (by decide) rfl (fun ls hl => ?_)
  refine lv_aload_n hx hb dX3_write_39 rfl (lv_at hl 3 rfl) ?_
  refine va_get (ci := 4) (v := .ref a_words) (C := RX3) (T := TX3) (N := 2) hx hb hts in_X3 hown hK hP 0 rfl rfl 0 (by decide) (hts _ tw_241) (fun _ h9 => h9) rfl dX3_write_40 ?_
  refine lv_iload hx hb dX3_write_43 (lv_at hl 2 rfl) ?_
  refine lv_lload hx hb dX3_write_45 (lv_at hl 0 rfl) ?_
  refine lv_iload_n hx hb dX3_write_47 rfl (lv_at hl 6 rfl) ?_
  refine lv_i2l (v := tl_i2l p3) hx hb dX3_write_48 rfl ?_
  refine lv_iload hx hb dX3_write_49 (lv_at hl 1 rfl) ?_
  refine lv_lshl (v := tl_lshl (tl_i2l p3) ((p2 % (6 : Int)) * (8 : Int))) hx hb dX3_write_51 rfl ?_
  refine lv_lor hx hb dX3_write_52 ?_
  refine tr_last hx hb hf hK hP hD hS 1 2 rfl rfl (by decide) dX3_write_53 (fun hf H locs hP hD hS => ?_)
  have hP : va_P D vwCl [tl_ob a_this 4 [.ref a_words, .ref a_lengths], tl_ja (cy 2) a_words 2000 (va_up v_words (((p1 * (2 : Int)) + (p2 / (6 : Int))).toNat) (((v_words ((p1 * (2 : Int)) + (p2 / (6 : Int))).toNat) &&& ((tl_lshl (255 : Int64) ((p2 % (6 : Int)) * (8 : Int))) ^^^ (-1 : Int64))) ||| (tl_lshl (tl_i2l p3) ((p2 % (6 : Int)) * (8 : Int)))))] H := hP
  have hD : va_D A [tl_ob a_this 4 [.ref a_words, .ref a_lengths], tl_ja (cy 2) a_words 2000 (va_up v_words (((p1 * (2 : Int)) + (p2 / (6 : Int))).toNat) (((v_words ((p1 * (2 : Int)) + (p2 / (6 : Int))).toNat) &&& ((tl_lshl (255 : Int64) ((p2 % (6 : Int)) * (8 : Int))) ^^^ (-1 : Int64))) ||| (tl_lshl (tl_i2l p3) ((p2 % (6 : Int)) * (8 : Int)))))] := hD
  injection hf with hf
  subst hf
  exact W.vret hx hb hr (fun t ht hW => tl_fin hAe ⟨rfl, rfl⟩ (hP.sub (ws' := [tl_ob a_this 4 [.ref a_words, .ref a_lengths], tl_ja (cy 2) a_words 2000 (va_up v_words (((p1 * (2 : Int)) + (p2 / (6 : Int))).toNat) (((v_words ((p1 * (2 : Int)) + (p2 / (6 : Int))).toNat) &&& ((tl_lshl (255 : Int64) ((p2 % (6 : Int)) * (8 : Int))) ^^^ (-1 : Int64))) ||| (tl_lshl (tl_i2l p3) ((p2 % (6 : Int)) * (8 : Int)))))]) [0, 1] rfl) hK (hD.sub (ws' := [tl_ob a_this 4 [.ref a_words, .ref a_lengths], tl_ja (cy 2) a_words 2000 (va_up v_words (((p1 * (2 : Int)) + (p2 / (6 : Int))).toNat) (((v_words ((p1 * (2 : Int)) + (p2 / (6 : Int))).toNat) &&& ((tl_lshl (255 : Int64) ((p2 % (6 : Int)) * (8 : Int))) ^^^ (-1 : Int64))) ||| (tl_lshl (tl_i2l p3) ((p2 % (6 : Int)) * (8 : Int)))))]) [0, 1] (by decide) rfl) hS ht hW) hS.2.2 dX3_write_54
set_option maxHeartbeats 4000000 in
set_option maxRecDepth 100000 in
theorem kt_X3_insert (l : Launch) (D : va_G) (cy : Nat → ClassId) (a_this a_lengths a_words : Nat) (v_lengths : Nat → Int) (v_words : Nat → Int64) (p1 : Int) (p2 : Int) (p3 : Int) (p4 : Int) (z : (Nat → Int) × (Nat → Int64)) (hf : fX3_insert v_lengths v_words p1 p2 p3 p4 = some z) :
    tl_MC l D (tl_tys cy) yX3_insert (tl_w yX3_insert cX3_insert 8 none) { frames := 1, cells := 0, slots := 0, locals := 27 } [.ref a_this, .int (tl_I p1), .int (tl_I p2), .int (tl_I p3), .int (tl_I p4)] [tl_ob a_this 4 [.ref a_words, .ref a_lengths], tl_ia (cy 1) a_lengths 1000 v_lengths, tl_ja (cy 2) a_words 2000 v_words] 0 0 (fun v w1 => v = none ∧ w1 = [tl_ob a_this 4 [.ref a_words, .ref a_lengths], tl_ia (cy 1) a_lengths 1000 z.1, tl_ja (cy 2) a_words 2000 z.2]) := by
  refine tl_ofW (cc := cX3_insert) (maxL := 8) (ret := none) (by decide +kernel) (Nat.le_of_ble_eq_true rfl) ?_
  intro p e s m below meth c hx hb hr hml hts hown hlocks hnm A hAe hA hP hK hD hS ls hl
  have hl : lv_has ls 8 [(0, .ref a_this), (1, .int (tl_I p1)), (2, .int (tl_I p2)), (3, .int (tl_I p3)), (4, .int (tl_I p4))] := hl
  unfold fX3_insert at hf
  refine lv_iload_n hx hb dX3_insert_0 rfl (lv_at hl 1 rfl) ?_
  refine lv_iload_n hx hb dX3_insert_1 rfl (lv_at hl 2 rfl) ?_
  obtain ⟨z1, hz, hf⟩ := tl_bs hf
  refine tl_callS0 (As := [.int (tl_I p1), .int (tl_I p2)]) (rest := []) (wr := [tl_ob a_this 4 [.ref a_words, .ref a_lengths], tl_ia (cy 1) a_lengths 1000 v_lengths, tl_ja (cy 2) a_words 2000 v_words]) ⟨hx, hb, hml, hown, hts⟩ (kt_X3_isRow l D cy p1 p2 z1 hz) (va_cwS 2 hts tg_X3_19 rfl rfl rfl td_X3_isRow ⟨by decide, by decide⟩) hK hP hD hS hA [] [0, 1, 2] rfl rfl rfl rfl (by decide) rfl hl.1 rfl (Nat.le_of_ble_eq_true rfl) dX3_insert_2 ⟨by decide, by decide⟩ (fun v w1 H locs hp hP hD hS => ?_)
  obtain ⟨rfl, rfl⟩ := hp
  have hP : va_P D vwCl [tl_ob a_this 4 [.ref a_words, .ref a_lengths], tl_ia (cy 1) a_lengths 1000 v_lengths, tl_ja (cy 2) a_words 2000 v_words] H := hP
  have hD : va_D A [tl_ob a_this 4 [.ref a_words, .ref a_lengths], tl_ia (cy 1) a_lengths 1000 v_lengths, tl_ja (cy 2) a_words 2000 v_words] := hD
  refine W.eq (g2 := F0 m 5 ls [.int (tl_I z1)]) rfl ?_
  refine tr_if_eq (tgt := 16) hx hb hf dX3_insert_5 (by decide) (fun hc hf => ?_) (fun hc hf => ?_)
  · injection hf with hf
    subst hf
    exact W.vret hx hb hr (fun t ht hW => tl_fin hAe ⟨rfl, rfl⟩ (hP.sub (ws' := [tl_ob a_this 4 [.ref a_words, .ref a_lengths], tl_ia (cy 1) a_lengths 1000 v_lengths, tl_ja (cy 2) a_words 2000 v_words]) [0, 1, 2] rfl) hK (hD.sub (ws' := [tl_ob a_this 4 [.ref a_words, .ref a_lengths], tl_ia (cy 1) a_lengths 1000 v_lengths, tl_ja (cy 2) a_words 2000 v_words]) [0, 1, 2] (by decide) rfl) hS ht hW) hS.2.2 dX3_insert_16
  · refine lv_iload hx hb dX3_insert_8 (lv_at hl 4 rfl) ?_
    obtain ⟨z2, hz, hf⟩ := tl_bs hf
    refine tl_callS0 (As := [.int (tl_I p4)]) (rest := []) (wr := [tl_ob a_this 4 [.ref a_words, .ref a_lengths], tl_ia (cy 1) a_lengths 1000 v_lengths, tl_ja (cy 2) a_words 2000 v_words]) ⟨hx, hb, hml, hown, hts⟩ (kt_X4_isSlot l D cy p4 z2 hz) (va_cwS 1 hts tg_X3_39 rfl rfl rfl td_X4_isSlot ⟨by decide, by decide⟩) hK hP hD hS hA [] [0, 1, 2] rfl rfl rfl rfl (by decide) rfl hl.1 rfl (Nat.le_of_ble_eq_true rfl) dX3_insert_10 ⟨by decide, by decide⟩ (fun v w1 H locs hp hP hD hS => ?_)
    obtain ⟨rfl, rfl⟩ := hp
    have hP : va_P D vwCl [tl_ob a_this 4 [.ref a_words, .ref a_lengths], tl_ia (cy 1) a_lengths 1000 v_lengths, tl_ja (cy 2) a_words 2000 v_words] H := hP
    have hD : va_D A [tl_ob a_this 4 [.ref a_words, .ref a_lengths], tl_ia (cy 1) a_lengths 1000 v_lengths, tl_ja (cy 2) a_words 2000 v_words] := hD
    refine W.eq (g2 := F0 m 13 ls [.int (tl_I z2)]) rfl ?_
    refine tr_if_ne (tgt := 17) hx hb hf dX3_insert_13 (by decide) (fun hc hf => ?_) (fun hc hf => ?_)
    · injection hf with hf
      subst hf
      exact W.vret hx hb hr (fun t ht hW => tl_fin hAe ⟨rfl, rfl⟩ (hP.sub (ws' := [tl_ob a_this 4 [.ref a_words, .ref a_lengths], tl_ia (cy 1) a_lengths 1000 v_lengths, tl_ja (cy 2) a_words 2000 v_words]) [0, 1, 2] rfl) hK (hD.sub (ws' := [tl_ob a_this 4 [.ref a_words, .ref a_lengths], tl_ia (cy 1) a_lengths 1000 v_lengths, tl_ja (cy 2) a_words 2000 v_words]) [0, 1, 2] (by decide) rfl) hS ht hW) hS.2.2 dX3_insert_16
    · refine lv_iload_n hx hb dX3_insert_17 rfl (lv_at hl 1 rfl) ?_
      refine lv_iload_n hx hb dX3_insert_18 rfl (lv_at hl 2 rfl) ?_
      obtain ⟨z3, hz, hf⟩ := tl_bs hf
      refine tl_callS0 (As := [.int (tl_I p1), .int (tl_I p2)]) (rest := []) (wr := [tl_ob a_this 4 [.ref a_words, .ref a_lengths], tl_ia (cy 1) a_lengths 1000 v_lengths, tl_ja (cy 2) a_words 2000 v_words]) ⟨hx, hb, hml, hown, hts⟩ (kt_X3_rowOf l D cy p1 p2 z3 hz) (va_cwS 2 hts tg_X3_23 rfl rfl rfl td_X3_rowOf ⟨by decide, by decide⟩) hK hP hD hS hA [] [0, 1, 2] rfl rfl rfl rfl (by decide) rfl hl.1 rfl (Nat.le_of_ble_eq_true rfl) dX3_insert_19 ⟨by decide, by decide⟩ (fun v w1 H locs hp hP hD hS => ?_)
      obtain ⟨rfl, rfl⟩ := hp
      have hP : va_P D vwCl [tl_ob a_this 4 [.ref a_words, .ref a_lengths], tl_ia (cy 1) a_lengths 1000 v_lengths, tl_ja (cy 2) a_words 2000 v_words] H := hP
      have hD : va_D A [tl_ob a_this 4 [.ref a_words, .ref a_lengths], tl_ia (cy 1) a_lengths 1000 v_lengths, tl_ja (cy 2) a_words 2000 v_words] := hD
      refine W.eq (g2 := F0 m 22 ls [.int (tl_I z3)]) rfl ?_
      refine lv_istore (lv' := [(5, .int (tl_I z3)), (0, .ref a_this), (1, .int (tl_I p1)), (2, .int (tl_I p2)), (3, .int (tl_I p3)), (4, .int (tl_I p4))]) hx hb dX3_insert_22 hl (by decide) rfl (fun ls hl => ?_)
      refine lv_aload_n hx hb dX3_insert_24 rfl (lv_at hl 1 rfl) ?_
      refine va_get (ci := 4) (v := .ref a_lengths) (C := RX3) (T := TX3) (N := 2) hx hb hts in_X3 hown hK hP 0 rfl rfl 1 (by decide) (hts _ tw_242) (fun _ h9 => h9) rfl dX3_insert_25 ?_
      refine lv_iload hx hb dX3_insert_28 (lv_at hl 0 rfl) ?_
      refine tr_iald hx hb hf hK hP 1 1 rfl rfl (by decide) dX3_insert_30 (fun hf => ?_)
      refine lv_istore (lv' := [(6, .int (tl_I (v_lengths z3.toNat))), (5, .int (tl_I z3)), (0, .ref a_this), (1, .int (tl_I p1)), (2, .int (tl_I p2)), (3, .int (tl_I p3)), (4, .int (tl_I p4))]) hx hb dX3_insert_31 hl (by decide) rfl (fun ls hl => ?_)
      refine lv_iload_n hx hb dX3_insert_33 rfl (lv_at hl 5 rfl) ?_
      refine tr_if_lt (tgt := 50) hx hb hf dX3_insert_34 (by decide) (fun hc hf => ?_) (fun hc hf => ?_)
      · injection hf with hf
        subst hf
        exact W.vret hx hb hr (fun t ht hW => tl_fin hAe ⟨rfl, rfl⟩ (hP.sub (ws' := [tl_ob a_this 4 [.ref a_words, .ref a_lengths], tl_ia (cy 1) a_lengths 1000 v_lengths, tl_ja (cy 2) a_words 2000 v_words]) [0, 1, 2] rfl) hK (hD.sub (ws' := [tl_ob a_this 4 [.ref a_words, .ref a_lengths], tl_ia (cy 1) a_lengths 1000 v_lengths, tl_ja (cy 2) a_words 2000 v_words]) [0, 1, 2] (by decide) rfl) hS ht hW) hS.2.2 dX3_insert_50
      · refine lv_iload_n hx hb dX3_insert_37 rfl (lv_at hl 5 rfl) ?_
        refine lv_iload hx hb dX3_insert_38 (lv_at hl 0 rfl) ?_
        refine tr_icmp_gt (tgt := 50) hx hb hf dX3_insert_40 (by decide) (fun hc hf => ?_) (fun hc hf => ?_)
        · injection hf with hf
          subst hf
          exact W.vret hx hb hr (fun t ht hW => tl_fin hAe ⟨rfl, rfl⟩ (hP.sub (ws' := [tl_ob a_this 4 [.ref a_words, .ref a_lengths], tl_ia (cy 1) a_lengths 1000 v_lengths, tl_ja (cy 2) a_words 2000 v_words]) [0, 1, 2] rfl) hK (hD.sub (ws' := [tl_ob a_this 4 [.ref a_words, .ref a_lengths], tl_ia (cy 1) a_lengths 1000 v_lengths, tl_ja (cy 2) a_words 2000 v_words]) [0, 1, 2] (by decide) rfl) hS ht hW) hS.2.2 dX3_insert_50
        · refine lv_iload hx hb dX3_insert_43 (lv_at hl 0 rfl) ?_
          refine lv_bipush (v := tl_I (12 : Int)) hx hb dX3_insert_45 rfl ?_
          refine tr_icmp_lt (tgt := 51) hx hb hf dX3_insert_47 (by decide) (fun hc hf => ?_) (fun hc hf => ?_)
          · refine lv_iload hx hb dX3_insert_51 (lv_at hl 0 rfl) ?_
            refine lv_istore (lv' := [(7, .int (tl_I (v_lengths z3.toNat))), (6, .int (tl_I (v_lengths z3.toNat))), (5, .int (tl_I z3)), (0, .ref a_this), (1, .int (tl_I p1)), (2, .int (tl_I p2)), (3, .int (tl_I p3)), (4, .int (tl_I p4))]) hx hb dX3_insert_53 hl (by decide) rfl (fun ls hl => ?_)
            have lp1 : ∀ (n : Nat) (x4 : Int) (x5 : Nat → Int64) (out : Nat → Int64), fX3_insert_L1 p3 z3 n x4 x5 = some out → ∀ (H : Heap) (locs : List Loc) (ls : Array Slot), va_P D vwCl [tl_ob a_this 4 [.ref a_words, .ref a_lengths], tl_ia (cy 1) a_lengths 1000 v_lengths, tl_ja (cy 2) a_words 2000 x5] H → va_D A [tl_ob a_this 4 [.ref a_words, .ref a_lengths], tl_ia (cy 1) a_lengths 1000 v_lengths, tl_ja (cy 2) a_words 2000 x5] → va_S A s.heap H locs → lv_has ls 8 [(7, .int (tl_I x4)), (6, .int (tl_I (v_lengths z3.toNat))), (5, .int (tl_I z3)), (0, .ref a_this), (3, .int (tl_I p3)), (4, .int (tl_I p4))] → (∀ (x5 : Nat → Int64), out = x5 → ∀ (H : Heap) (locs : List Loc) (ls : Array Slot), va_P D vwCl [tl_ob a_this 4 [.ref a_words, .ref a_lengths], tl_ia (cy 1) a_lengths 1000 v_lengths, tl_ja (cy 2) a_words 2000 x5] H → va_D A [tl_ob a_this 4 [.ref a_words, .ref a_lengths], tl_ia (cy 1) a_lengths 1000 v_lengths, tl_ja (cy 2) a_words 2000 x5] → va_S A s.heap H locs → lv_has ls 8 [(6, .int (tl_I (v_lengths z3.toNat))), (5, .int (tl_I z3)), (0, .ref a_this), (3, .int (tl_I p3)), (4, .int (tl_I p4))] → W p l e { frames := 1, cells := 0, slots := 0, locals := 27 } s m ([.ref a_this, .int (tl_I p1), .int (tl_I p2), .int (tl_I p3), .int (tl_I p4)] : List Value).toArray below meth c H locs 0 0 (MQ below (tl_Q D (tl_tys cy) [tl_ob a_this 4 [.ref a_words, .ref a_lengths], tl_ia (cy 1) a_lengths 1000 v_lengths, tl_ja (cy 2) a_words 2000 v_words] s.heap.size (fun v w1 => v = none ∧ w1 = [tl_ob a_this 4 [.ref a_words, .ref a_lengths], tl_ia (cy 1) a_lengths 1000 z.1, tl_ja (cy 2) a_words 2000 z.2])) ([.ref a_this, .int (tl_I p1), .int (tl_I p2), .int (tl_I p3), .int (tl_I p4)] : List Value).toArray s 0 0 A) (F0 m 85 ls [])) → W p l e { frames := 1, cells := 0, slots := 0, locals := 27 } s m ([.ref a_this, .int (tl_I p1), .int (tl_I p2), .int (tl_I p3), .int (tl_I p4)] : List Value).toArray below meth c H locs 0 0 (MQ below (tl_Q D (tl_tys cy) [tl_ob a_this 4 [.ref a_words, .ref a_lengths], tl_ia (cy 1) a_lengths 1000 v_lengths, tl_ja (cy 2) a_words 2000 v_words] s.heap.size (fun v w1 => v = none ∧ w1 = [tl_ob a_this 4 [.ref a_words, .ref a_lengths], tl_ia (cy 1) a_lengths 1000 z.1, tl_ja (cy 2) a_words 2000 z.2])) ([.ref a_this, .int (tl_I p1), .int (tl_I p2), .int (tl_I p3), .int (tl_I p4)] : List Value).toArray s 0 0 A) (F0 m 55 ls []) := by
              intro n
              induction n with
              | zero =>
                intro x4 x5 out hf
                cases hf
              | succ n ih =>
                intro x4 x5 out hf H locs ls hP hD hS hl hE
                rw [fX3_insert_L1] at hf
                refine lv_iload hx hb dX3_insert_55 (lv_at hl 0 rfl) ?_
                refine lv_iload_n hx hb dX3_insert_57 rfl (lv_at hl 4 rfl) ?_
                refine tr_icmp_le (tgt := 85) hx hb hf dX3_insert_58 (by decide) (fun hc hf => ?_) (fun hc hf => ?_)
                · refine lv_aload_n hx hb dX3_insert_61 rfl (lv_at hl 3 rfl) ?_
                  refine lv_iload hx hb dX3_insert_62 (lv_at hl 2 rfl) ?_
                  refine lv_iload hx hb dX3_insert_64 (lv_at hl 0 rfl) ?_
                  refine lv_aload_n hx hb dX3_insert_66 rfl (lv_at hl 3 rfl) ?_
                  refine lv_iload hx hb dX3_insert_67 (lv_at hl 2 rfl) ?_
                  refine lv_iload hx hb dX3_insert_69 (lv_at hl 0 rfl) ?_
                  refine lv_iconst (v := tl_I (1 : Int)) hx hb dX3_insert_71 rfl ?_
                  refine tr_isub hx hb dX3_insert_72 ?_
                  obtain ⟨z6, hz, hf⟩ := tl_bs hf
                  refine tl_callV0 (As := [.int (tl_I z3), .int (tl_I (x4 - (1 : Int)))]) (rest := [.int (tl_I x4), .int (tl_I z3), .ref a_this]) (wr := [tl_ia (cy 1) a_lengths 1000 v_lengths]) ⟨hx, hb, hml, hown, hts⟩ (kt_X3_read l D cy a_this a_words a_lengths x5 z3 (x4 - (1 : Int)) z6 hz) (cwV 2 hts tg_X3_30 rfl rfl rfl td_X3_read ⟨by decide, by decide⟩) hK hP hD hS hA [0, 2] [1] rfl rfl rfl rfl (by decide) 0 4 rfl rfl rfl rfl hl.1 rfl (Nat.le_of_ble_eq_true rfl) dX3_insert_73 ⟨by decide, by decide⟩ (fun v w1 H locs hp hP hD hS => ?_)
                  obtain ⟨rfl, rfl⟩ := hp
                  have hP : va_P D vwCl [tl_ia (cy 1) a_lengths 1000 v_lengths, tl_ob a_this 4 [.ref a_words, .ref a_lengths], tl_ja (cy 2) a_words 2000 x5] H := hP
                  have hD : va_D A [tl_ia (cy 1) a_lengths 1000 v_lengths, tl_ob a_this 4 [.ref a_words, .ref a_lengths], tl_ja (cy 2) a_words 2000 x5] := hD
                  refine W.eq (g2 := F0 m 76 ls [.int (tl_I z6), .int (tl_I x4), .int (tl_I z3), .ref a_this]) rfl ?_
                  obtain ⟨z7, hz, hf⟩ := tl_bs hf
                  refine tl_callV0 (As := [.int (tl_I z3), .int (tl_I x4), .int (tl_I z6)]) (rest := []) (wr := [tl_ia (cy 1) a_lengths 1000 v_lengths]) ⟨hx, hb, hml, hown, hts⟩ (kt_X3_write l D cy a_this a_words a_lengths x5 z3 x4 z6 z7 hz) (cwV 3 hts tg_X3_43 rfl rfl rfl td_X3_write ⟨by decide, by decide⟩) hK hP hD hS hA [1, 2] [0] rfl rfl rfl rfl (by decide) 1 4 rfl rfl rfl rfl hl.1 rfl (Nat.le_of_ble_eq_true rfl) dX3_insert_76 ⟨by decide, by decide⟩ (fun v w1 H locs hp hP hD hS => ?_)
                  obtain ⟨rfl, rfl⟩ := hp
                  have hP : va_P D vwCl [tl_ia (cy 1) a_lengths 1000 v_lengths, tl_ob a_this 4 [.ref a_words, .ref a_lengths], tl_ja (cy 2) a_words 2000 z7] H := hP
                  have hD : va_D A [tl_ia (cy 1) a_lengths 1000 v_lengths, tl_ob a_this 4 [.ref a_words, .ref a_lengths], tl_ja (cy 2) a_words 2000 z7] := hD
                  refine W.eq (g2 := F0 m 79 ls []) rfl ?_
                  refine lv_iinc (v := tl_I (x4 + (-1))) (lv' := [(7, .int (tl_I (x4 + (-1)))), (6, .int (tl_I (v_lengths z3.toNat))), (5, .int (tl_I z3)), (0, .ref a_this), (3, .int (tl_I p3)), (4, .int (tl_I p4))]) hx hb dX3_insert_79 hl (k := 0) rfl (tl_add _ _) (by decide) rfl (fun ls hl => ?_)
                  refine lv_goto (tgt := 55) hx hb dX3_insert_82 (by decide) ?_
                  exact ih (x4 + (-1)) z7 out hf _ _ _ (hP.sub (ws' := [tl_ob a_this 4 [.ref a_words, .ref a_lengths], tl_ia (cy 1) a_lengths 1000 v_lengths, tl_ja (cy 2) a_words 2000 z7]) [1, 0, 2] rfl) (hD.sub (ws' := [tl_ob a_this 4 [.ref a_words, .ref a_lengths], tl_ia (cy 1) a_lengths 1000 v_lengths, tl_ja (cy 2) a_words 2000 z7]) [1, 0, 2] (by decide) rfl) hS (lv_sub hl [0, 1, 2, 3, 4, 5] rfl) hE
                · injection hf with hf
                  subst hf
                  exact hE x5 rfl _ _ _ (hP.sub (ws' := [tl_ob a_this 4 [.ref a_words, .ref a_lengths], tl_ia (cy 1) a_lengths 1000 v_lengths, tl_ja (cy 2) a_words 2000 x5]) [0, 1, 2] rfl) (hD.sub (ws' := [tl_ob a_this 4 [.ref a_words, .ref a_lengths], tl_ia (cy 1) a_lengths 1000 v_lengths, tl_ja (cy 2) a_words 2000 x5]) [0, 1, 2] (by decide) rfl) hS (lv_sub hl [1, 2, 3, 4, 5] rfl)
            obtain ⟨o, hz, hf⟩ := tl_bs hf
            refine lp1 tl_N (v_lengths z3.toNat) v_words o hz _ _ _ (hP.sub (ws' := [tl_ob a_this 4 [.ref a_words, .ref a_lengths], tl_ia (cy 1) a_lengths 1000 v_lengths, tl_ja (cy 2) a_words 2000 v_words]) [0, 1, 2] rfl) (hD.sub (ws' := [tl_ob a_this 4 [.ref a_words, .ref a_lengths], tl_ia (cy 1) a_lengths 1000 v_lengths, tl_ja (cy 2) a_words 2000 v_words]) [0, 1, 2] (by decide) rfl) hS (lv_sub hl [0, 1, 2, 3, 6, 7] rfl) ?_
            intro x5 ho H locs ls hP hD hS hl
            rw [ho] at hf
            try dsimp only at hf
            refine lv_aload_n hx hb dX3_insert_85 rfl (lv_at hl 2 rfl) ?_
            refine lv_iload hx hb dX3_insert_86 (lv_at hl 1 rfl) ?_
            refine lv_iload_n hx hb dX3_insert_88 rfl (lv_at hl 3 rfl) ?_
            refine lv_iload hx hb dX3_insert_89 (lv_at hl 4 rfl) ?_
            obtain ⟨z9, hz, hf⟩ := tl_bs hf
            refine tl_callV0 (As := [.int (tl_I z3), .int (tl_I p3), .int (tl_I p4)]) (rest := []) (wr := [tl_ia (cy 1) a_lengths 1000 v_lengths]) ⟨hx, hb, hml, hown, hts⟩ (kt_X3_write l D cy a_this a_words a_lengths x5 z3 p3 p4 z9 hz) (cwV 3 hts tg_X3_43 rfl rfl rfl td_X3_write ⟨by decide, by decide⟩) hK hP hD hS hA [0, 2] [1] rfl rfl rfl rfl (by decide) 0 4 rfl rfl rfl rfl hl.1 rfl (Nat.le_of_ble_eq_true rfl) dX3_insert_91 ⟨by decide, by decide⟩ (fun v w1 H locs hp hP hD hS => ?_)
            obtain ⟨rfl, rfl⟩ := hp
            have hP : va_P D vwCl [tl_ia (cy 1) a_lengths 1000 v_lengths, tl_ob a_this 4 [.ref a_words, .ref a_lengths], tl_ja (cy 2) a_words 2000 z9] H := hP
            have hD : va_D A [tl_ia (cy 1) a_lengths 1000 v_lengths, tl_ob a_this 4 [.ref a_words, .ref a_lengths], tl_ja (cy 2) a_words 2000 z9] := hD
            refine W.eq (g2 := F0 m 94 ls []) rfl ?_
            refine lv_aload_n hx hb dX3_insert_94 rfl (lv_at hl 2 rfl) ?_
            refine va_get (ci := 4) (v := .ref a_lengths) (C := RX3) (T := TX3) (N := 2) hx hb hts in_X3 hown hK hP 1 rfl rfl 1 (by decide) (hts _ tw_242) (fun _ h9 => h9) rfl dX3_insert_95 ?_
            refine lv_iload hx hb dX3_insert_98 (lv_at hl 1 rfl) ?_
            refine lv_iload hx hb dX3_insert_100 (lv_at hl 0 rfl) ?_
            refine lv_iconst (v := tl_I (1 : Int)) hx hb dX3_insert_102 rfl ?_
            refine tr_iadd hx hb dX3_insert_103 ?_
            refine tr_iast hx hb hf hK hP hD hS 0 1 rfl rfl (by decide) dX3_insert_104 (fun hf H locs hP hD hS => ?_)
            have hP : va_P D vwCl [tl_ia (cy 1) a_lengths 1000 (va_up v_lengths z3.toNat ((v_lengths z3.toNat) + (1 : Int))), tl_ob a_this 4 [.ref a_words, .ref a_lengths], tl_ja (cy 2) a_words 2000 z9] H := hP
            have hD : va_D A [tl_ia (cy 1) a_lengths 1000 (va_up v_lengths z3.toNat ((v_lengths z3.toNat) + (1 : Int))), tl_ob a_this 4 [.ref a_words, .ref a_lengths], tl_ja (cy 2) a_words 2000 z9] := hD
            injection hf with hf
            subst hf
            exact W.vret hx hb hr (fun t ht hW => tl_fin hAe ⟨rfl, rfl⟩ (hP.sub (ws' := [tl_ob a_this 4 [.ref a_words, .ref a_lengths], tl_ia (cy 1) a_lengths 1000 (va_up v_lengths z3.toNat ((v_lengths z3.toNat) + (1 : Int))), tl_ja (cy 2) a_words 2000 z9]) [1, 0, 2] rfl) hK (hD.sub (ws' := [tl_ob a_this 4 [.ref a_words, .ref a_lengths], tl_ia (cy 1) a_lengths 1000 (va_up v_lengths z3.toNat ((v_lengths z3.toNat) + (1 : Int))), tl_ja (cy 2) a_words 2000 z9]) [1, 0, 2] (by decide) rfl) hS ht hW) hS.2.2 dX3_insert_105
          · injection hf with hf
            subst hf
            exact W.vret hx hb hr (fun t ht hW => tl_fin hAe ⟨rfl, rfl⟩ (hP.sub (ws' := [tl_ob a_this 4 [.ref a_words, .ref a_lengths], tl_ia (cy 1) a_lengths 1000 v_lengths, tl_ja (cy 2) a_words 2000 v_words]) [0, 1, 2] rfl) hK (hD.sub (ws' := [tl_ob a_this 4 [.ref a_words, .ref a_lengths], tl_ia (cy 1) a_lengths 1000 v_lengths, tl_ja (cy 2) a_words 2000 v_words]) [0, 1, 2] (by decide) rfl) hS ht hW) hS.2.2 dX3_insert_50
set_option maxHeartbeats 4000000 in
set_option maxRecDepth 100000 in
theorem kt_X3_append (l : Launch) (D : va_G) (cy : Nat → ClassId) (a_this a_lengths a_words : Nat) (v_lengths : Nat → Int) (v_words : Nat → Int64) (p1 : Int) (p2 : Int) (p3 : Int) (z : (Nat → Int) × (Nat → Int64)) (hf : fX3_append v_lengths v_words p1 p2 p3 = some z) :
    tl_MC l D (tl_tys cy) yX3_append (tl_w yX3_append cX3_append 4 none) { frames := 2, cells := 0, slots := 0, locals := 54 } [.ref a_this, .int (tl_I p1), .int (tl_I p2), .int (tl_I p3)] [tl_ob a_this 4 [.ref a_words, .ref a_lengths], tl_ia (cy 1) a_lengths 1000 v_lengths, tl_ja (cy 2) a_words 2000 v_words] 0 0 (fun v w1 => v = none ∧ w1 = [tl_ob a_this 4 [.ref a_words, .ref a_lengths], tl_ia (cy 1) a_lengths 1000 z.1, tl_ja (cy 2) a_words 2000 z.2]) := by
  refine tl_ofW (cc := cX3_append) (maxL := 4) (ret := none) (by decide +kernel) (Nat.le_of_ble_eq_true rfl) ?_
  intro p e s m below meth c hx hb hr hml hts hown hlocks hnm A hAe hA hP hK hD hS ls hl
  have hl : lv_has ls 4 [(0, .ref a_this), (1, .int (tl_I p1)), (2, .int (tl_I p2)), (3, .int (tl_I p3))] := hl
  unfold fX3_append at hf
  refine lv_aload_n hx hb dX3_append_0 rfl (lv_at hl 0 rfl) ?_
  refine lv_iload_n hx hb dX3_append_1 rfl (lv_at hl 1 rfl) ?_
  refine lv_iload_n hx hb dX3_append_2 rfl (lv_at hl 2 rfl) ?_
  refine lv_aload_n hx hb dX3_append_3 rfl (lv_at hl 0 rfl) ?_
  refine lv_iload_n hx hb dX3_append_4 rfl (lv_at hl 1 rfl) ?_
  refine lv_iload_n hx hb dX3_append_5 rfl (lv_at hl 2 rfl) ?_
  obtain ⟨z1, hz, hf⟩ := tl_bs hf
  refine tl_callV0 (As := [.int (tl_I p1), .int (tl_I p2)]) (rest := [.int (tl_I p2), .int (tl_I p1), .ref a_this]) (wr := [tl_ja (cy 2) a_words 2000 v_words]) ⟨hx, hb, hml, hown, hts⟩ (kt_X3_lengthOf l D cy a_this a_lengths a_words v_lengths p1 p2 z1 hz) (cwV 2 hts tg_X3_27 rfl rfl rfl td_X3_lengthOf ⟨by decide, by decide⟩) hK hP hD hS hA [0, 1] [2] rfl rfl rfl rfl (by decide) 0 4 rfl rfl rfl rfl hl.1 rfl (Nat.le_of_ble_eq_true rfl) dX3_append_6 ⟨by decide, by decide⟩ (fun v w1 H locs hp hP hD hS => ?_)
  obtain ⟨rfl, rfl⟩ := hp
  have hP : va_P D vwCl [tl_ja (cy 2) a_words 2000 v_words, tl_ob a_this 4 [.ref a_words, .ref a_lengths], tl_ia (cy 1) a_lengths 1000 v_lengths] H := hP
  have hD : va_D A [tl_ja (cy 2) a_words 2000 v_words, tl_ob a_this 4 [.ref a_words, .ref a_lengths], tl_ia (cy 1) a_lengths 1000 v_lengths] := hD
  refine W.eq (g2 := F0 m 9 ls [.int (tl_I z1), .int (tl_I p2), .int (tl_I p1), .ref a_this]) rfl ?_
  refine lv_iload_n hx hb dX3_append_9 rfl (lv_at hl 3 rfl) ?_
  obtain ⟨z2, hz, hf⟩ := tl_bs hf
  refine tl_callV0 (As := [.int (tl_I p1), .int (tl_I p2), .int (tl_I z1), .int (tl_I p3)]) (rest := []) (wr := []) ⟨hx, hb, hml, hown, hts⟩ (kt_X3_insert l D cy a_this a_lengths a_words v_lengths v_words p1 p2 z1 p3 z2 hz) (cwV 4 hts tg_X3_47 rfl rfl rfl td_X3_insert ⟨by decide, by decide⟩) hK hP hD hS hA [1, 2, 0] [] rfl rfl rfl rfl (by decide) 1 4 rfl rfl rfl rfl hl.1 rfl (Nat.le_of_ble_eq_true rfl) dX3_append_10 ⟨by decide, by decide⟩ (fun v w1 H locs hp hP hD hS => ?_)
  obtain ⟨rfl, rfl⟩ := hp
  have hP : va_P D vwCl [tl_ob a_this 4 [.ref a_words, .ref a_lengths], tl_ia (cy 1) a_lengths 1000 z2.1, tl_ja (cy 2) a_words 2000 z2.2] H := hP
  have hD : va_D A [tl_ob a_this 4 [.ref a_words, .ref a_lengths], tl_ia (cy 1) a_lengths 1000 z2.1, tl_ja (cy 2) a_words 2000 z2.2] := hD
  refine W.eq (g2 := F0 m 13 ls []) rfl ?_
  injection hf with hf
  subst hf
  exact W.vret hx hb hr (fun t ht hW => tl_fin hAe ⟨rfl, rfl⟩ (hP.sub (ws' := [tl_ob a_this 4 [.ref a_words, .ref a_lengths], tl_ia (cy 1) a_lengths 1000 z2.1, tl_ja (cy 2) a_words 2000 z2.2]) [0, 1, 2] rfl) hK (hD.sub (ws' := [tl_ob a_this 4 [.ref a_words, .ref a_lengths], tl_ia (cy 1) a_lengths 1000 z2.1, tl_ja (cy 2) a_words 2000 z2.2]) [0, 1, 2] (by decide) rfl) hS ht hW) hS.2.2 dX3_append_13
set_option maxHeartbeats 4000000 in
set_option maxRecDepth 100000 in
theorem kt_X3_remove (l : Launch) (D : va_G) (cy : Nat → ClassId) (a_this a_lengths a_words : Nat) (v_lengths : Nat → Int) (v_words : Nat → Int64) (p1 : Int) (p2 : Int) (p3 : Int) (z : Int × (Nat → Int) × (Nat → Int64)) (hf : fX3_remove v_lengths v_words p1 p2 p3 = some z) :
    tl_MC l D (tl_tys cy) yX3_remove (tl_w yX3_remove cX3_remove 9 (some .boolean)) { frames := 1, cells := 0, slots := 0, locals := 27 } [.ref a_this, .int (tl_I p1), .int (tl_I p2), .int (tl_I p3)] [tl_ob a_this 4 [.ref a_words, .ref a_lengths], tl_ia (cy 1) a_lengths 1000 v_lengths, tl_ja (cy 2) a_words 2000 v_words] 0 0 (fun v w1 => v = some (.int (tl_I z.1)) ∧ w1 = [tl_ob a_this 4 [.ref a_words, .ref a_lengths], tl_ia (cy 1) a_lengths 1000 z.2.1, tl_ja (cy 2) a_words 2000 z.2.2]) := by
  refine tl_ofW (cc := cX3_remove) (maxL := 9) (ret := (some .boolean)) (by decide +kernel) (Nat.le_of_ble_eq_true rfl) ?_
  intro p e s m below meth c hx hb hr hml hts hown hlocks hnm A hAe hA hP hK hD hS ls hl
  have hl : lv_has ls 9 [(0, .ref a_this), (1, .int (tl_I p1)), (2, .int (tl_I p2)), (3, .int (tl_I p3))] := hl
  unfold fX3_remove at hf
  refine lv_iload_n hx hb dX3_remove_0 rfl (lv_at hl 1 rfl) ?_
  refine lv_iload_n hx hb dX3_remove_1 rfl (lv_at hl 2 rfl) ?_
  obtain ⟨z1, hz, hf⟩ := tl_bs hf
  refine tl_callS0 (As := [.int (tl_I p1), .int (tl_I p2)]) (rest := []) (wr := [tl_ob a_this 4 [.ref a_words, .ref a_lengths], tl_ia (cy 1) a_lengths 1000 v_lengths, tl_ja (cy 2) a_words 2000 v_words]) ⟨hx, hb, hml, hown, hts⟩ (kt_X3_isRow l D cy p1 p2 z1 hz) (va_cwS 2 hts tg_X3_19 rfl rfl rfl td_X3_isRow ⟨by decide, by decide⟩) hK hP hD hS hA [] [0, 1, 2] rfl rfl rfl rfl (by decide) rfl hl.1 rfl (Nat.le_of_ble_eq_true rfl) dX3_remove_2 ⟨by decide, by decide⟩ (fun v w1 H locs hp hP hD hS => ?_)
  obtain ⟨rfl, rfl⟩ := hp
  have hP : va_P D vwCl [tl_ob a_this 4 [.ref a_words, .ref a_lengths], tl_ia (cy 1) a_lengths 1000 v_lengths, tl_ja (cy 2) a_words 2000 v_words] H := hP
  have hD : va_D A [tl_ob a_this 4 [.ref a_words, .ref a_lengths], tl_ia (cy 1) a_lengths 1000 v_lengths, tl_ja (cy 2) a_words 2000 v_words] := hD
  refine W.eq (g2 := F0 m 5 ls [.int (tl_I z1)]) rfl ?_
  refine tr_if_ne (tgt := 10) hx hb hf dX3_remove_5 (by decide) (fun hc hf => ?_) (fun hc hf => ?_)
  · refine lv_iconst (v := tl_I (0 : Int)) hx hb dX3_remove_8 rfl ?_
    injection hf with hf
    subst hf
    exact W.zret (v := tl_I (0 : Int)) hx hb hr rfl (fun t ht hW => tl_fin hAe ⟨rfl, rfl⟩ (hP.sub (ws' := [tl_ob a_this 4 [.ref a_words, .ref a_lengths], tl_ia (cy 1) a_lengths 1000 v_lengths, tl_ja (cy 2) a_words 2000 v_words]) [0, 1, 2] rfl) hK (hD.sub (ws' := [tl_ob a_this 4 [.ref a_words, .ref a_lengths], tl_ia (cy 1) a_lengths 1000 v_lengths, tl_ja (cy 2) a_words 2000 v_words]) [0, 1, 2] (by decide) rfl) hS ht hW) hS.2.2 dX3_remove_9
  · refine lv_iload_n hx hb dX3_remove_10 rfl (lv_at hl 1 rfl) ?_
    refine lv_iload_n hx hb dX3_remove_11 rfl (lv_at hl 2 rfl) ?_
    obtain ⟨z2, hz, hf⟩ := tl_bs hf
    refine tl_callS0 (As := [.int (tl_I p1), .int (tl_I p2)]) (rest := []) (wr := [tl_ob a_this 4 [.ref a_words, .ref a_lengths], tl_ia (cy 1) a_lengths 1000 v_lengths, tl_ja (cy 2) a_words 2000 v_words]) ⟨hx, hb, hml, hown, hts⟩ (kt_X3_rowOf l D cy p1 p2 z2 hz) (va_cwS 2 hts tg_X3_23 rfl rfl rfl td_X3_rowOf ⟨by decide, by decide⟩) hK hP hD hS hA [] [0, 1, 2] rfl rfl rfl rfl (by decide) rfl hl.1 rfl (Nat.le_of_ble_eq_true rfl) dX3_remove_12 ⟨by decide, by decide⟩ (fun v w1 H locs hp hP hD hS => ?_)
    obtain ⟨rfl, rfl⟩ := hp
    have hP : va_P D vwCl [tl_ob a_this 4 [.ref a_words, .ref a_lengths], tl_ia (cy 1) a_lengths 1000 v_lengths, tl_ja (cy 2) a_words 2000 v_words] H := hP
    have hD : va_D A [tl_ob a_this 4 [.ref a_words, .ref a_lengths], tl_ia (cy 1) a_lengths 1000 v_lengths, tl_ja (cy 2) a_words 2000 v_words] := hD
    refine W.eq (g2 := F0 m 15 ls [.int (tl_I z2)]) rfl ?_
    refine lv_istore (lv' := [(4, .int (tl_I z2)), (0, .ref a_this), (1, .int (tl_I p1)), (2, .int (tl_I p2)), (3, .int (tl_I p3))]) hx hb dX3_remove_15 hl (by decide) rfl (fun ls hl => ?_)
    refine lv_aload_n hx hb dX3_remove_17 rfl (lv_at hl 1 rfl) ?_
    refine va_get (ci := 4) (v := .ref a_lengths) (C := RX3) (T := TX3) (N := 2) hx hb hts in_X3 hown hK hP 0 rfl rfl 1 (by decide) (hts _ tw_242) (fun _ h9 => h9) rfl dX3_remove_18 ?_
    refine lv_iload hx hb dX3_remove_21 (lv_at hl 0 rfl) ?_
    refine tr_iald hx hb hf hK hP 1 1 rfl rfl (by decide) dX3_remove_23 (fun hf => ?_)
    refine lv_istore (lv' := [(5, .int (tl_I (v_lengths z2.toNat))), (4, .int (tl_I z2)), (0, .ref a_this), (1, .int (tl_I p1)), (2, .int (tl_I p2)), (3, .int (tl_I p3))]) hx hb dX3_remove_24 hl (by decide) rfl (fun ls hl => ?_)
    refine lv_iconst (v := tl_I (0 : Int)) hx hb dX3_remove_26 rfl ?_
    refine lv_istore (lv' := [(6, .int (tl_I (0 : Int))), (5, .int (tl_I (v_lengths z2.toNat))), (4, .int (tl_I z2)), (0, .ref a_this), (1, .int (tl_I p1)), (2, .int (tl_I p2)), (3, .int (tl_I p3))]) hx hb dX3_remove_27 hl (by decide) rfl (fun ls hl => ?_)
    refine lv_iconst (v := tl_I (0 : Int)) hx hb dX3_remove_29 rfl ?_
    refine lv_istore (lv' := [(7, .int (tl_I (0 : Int))), (6, .int (tl_I (0 : Int))), (5, .int (tl_I (v_lengths z2.toNat))), (4, .int (tl_I z2)), (0, .ref a_this), (1, .int (tl_I p1)), (2, .int (tl_I p2)), (3, .int (tl_I p3))]) hx hb dX3_remove_30 hl (by decide) rfl (fun ls hl => ?_)
    have lp1 : ∀ (n : Nat) (x3 : Int) (x4 : Int) (x5 : Nat → Int64) (out : Int × (Nat → Int64)), fX3_remove_L1 v_lengths p3 z2 n x3 x4 x5 = some out → ∀ (H : Heap) (locs : List Loc) (ls : Array Slot), va_P D vwCl [tl_ob a_this 4 [.ref a_words, .ref a_lengths], tl_ia (cy 1) a_lengths 1000 v_lengths, tl_ja (cy 2) a_words 2000 x5] H → va_D A [tl_ob a_this 4 [.ref a_words, .ref a_lengths], tl_ia (cy 1) a_lengths 1000 v_lengths, tl_ja (cy 2) a_words 2000 x5] → va_S A s.heap H locs → lv_has ls 9 [(7, .int (tl_I x3)), (6, .int (tl_I x4)), (5, .int (tl_I (v_lengths z2.toNat))), (4, .int (tl_I z2)), (0, .ref a_this), (3, .int (tl_I p3))] → (∀ (x4 : Int) (x5 : Nat → Int64), out = (x4, x5) → ∀ (H : Heap) (locs : List Loc) (ls : Array Slot), va_P D vwCl [tl_ob a_this 4 [.ref a_words, .ref a_lengths], tl_ia (cy 1) a_lengths 1000 v_lengths, tl_ja (cy 2) a_words 2000 x5] H → va_D A [tl_ob a_this 4 [.ref a_words, .ref a_lengths], tl_ia (cy 1) a_lengths 1000 v_lengths, tl_ja (cy 2) a_words 2000 x5] → va_S A s.heap H locs → lv_has ls 9 [(6, .int (tl_I x4)), (5, .int (tl_I (v_lengths z2.toNat))), (4, .int (tl_I z2)), (0, .ref a_this)] → W p l e { frames := 1, cells := 0, slots := 0, locals := 27 } s m ([.ref a_this, .int (tl_I p1), .int (tl_I p2), .int (tl_I p3)] : List Value).toArray below meth c H locs 0 0 (MQ below (tl_Q D (tl_tys cy) [tl_ob a_this 4 [.ref a_words, .ref a_lengths], tl_ia (cy 1) a_lengths 1000 v_lengths, tl_ja (cy 2) a_words 2000 v_words] s.heap.size (fun v w1 => v = some (.int (tl_I z.1)) ∧ w1 = [tl_ob a_this 4 [.ref a_words, .ref a_lengths], tl_ia (cy 1) a_lengths 1000 z.2.1, tl_ja (cy 2) a_words 2000 z.2.2])) ([.ref a_this, .int (tl_I p1), .int (tl_I p2), .int (tl_I p3)] : List Value).toArray s 0 0 A) (F0 m 74 ls [])) → W p l e { frames := 1, cells := 0, slots := 0, locals := 27 } s m ([.ref a_this, .int (tl_I p1), .int (tl_I p2), .int (tl_I p3)] : List Value).toArray below meth c H locs 0 0 (MQ below (tl_Q D (tl_tys cy) [tl_ob a_this 4 [.ref a_words, .ref a_lengths], tl_ia (cy 1) a_lengths 1000 v_lengths, tl_ja (cy 2) a_words 2000 v_words] s.heap.size (fun v w1 => v = some (.int (tl_I z.1)) ∧ w1 = [tl_ob a_this 4 [.ref a_words, .ref a_lengths], tl_ia (cy 1) a_lengths 1000 z.2.1, tl_ja (cy 2) a_words 2000 z.2.2])) ([.ref a_this, .int (tl_I p1), .int (tl_I p2), .int (tl_I p3)] : List Value).toArray s 0 0 A) (F0 m 32 ls []) := by
      intro n
      induction n with
      | zero =>
        intro x3 x4 x5 out hf
        cases hf
      | succ n ih =>
        intro x3 x4 x5 out hf H locs ls hP hD hS hl hE
        rw [fX3_remove_L1] at hf
        refine lv_iload hx hb dX3_remove_32 (lv_at hl 0 rfl) ?_
        refine lv_iload hx hb dX3_remove_34 (lv_at hl 2 rfl) ?_
        refine tr_icmp_ge (tgt := 74) hx hb hf dX3_remove_36 (by decide) (fun hc hf => ?_) (fun hc hf => ?_)
        · refine lv_aload_n hx hb dX3_remove_39 rfl (lv_at hl 4 rfl) ?_
          refine lv_iload hx hb dX3_remove_40 (lv_at hl 3 rfl) ?_
          refine lv_iload hx hb dX3_remove_42 (lv_at hl 0 rfl) ?_
          obtain ⟨z6, hz, hf⟩ := tl_bs hf
          refine tl_callV0 (As := [.int (tl_I z2), .int (tl_I x3)]) (rest := []) (wr := [tl_ia (cy 1) a_lengths 1000 v_lengths]) ⟨hx, hb, hml, hown, hts⟩ (kt_X3_read l D cy a_this a_words a_lengths x5 z2 x3 z6 hz) (cwV 2 hts tg_X3_30 rfl rfl rfl td_X3_read ⟨by decide, by decide⟩) hK hP hD hS hA [0, 2] [1] rfl rfl rfl rfl (by decide) 0 4 rfl rfl rfl rfl hl.1 rfl (Nat.le_of_ble_eq_true rfl) dX3_remove_44 ⟨by decide, by decide⟩ (fun v w1 H locs hp hP hD hS => ?_)
          obtain ⟨rfl, rfl⟩ := hp
          have hP : va_P D vwCl [tl_ia (cy 1) a_lengths 1000 v_lengths, tl_ob a_this 4 [.ref a_words, .ref a_lengths], tl_ja (cy 2) a_words 2000 x5] H := hP
          have hD : va_D A [tl_ia (cy 1) a_lengths 1000 v_lengths, tl_ob a_this 4 [.ref a_words, .ref a_lengths], tl_ja (cy 2) a_words 2000 x5] := hD
          refine W.eq (g2 := F0 m 47 ls [.int (tl_I z6)]) rfl ?_
          refine lv_istore (lv' := [(8, .int (tl_I z6)), (7, .int (tl_I x3)), (6, .int (tl_I x4)), (5, .int (tl_I (v_lengths z2.toNat))), (4, .int (tl_I z2)), (0, .ref a_this), (3, .int (tl_I p3))]) hx hb dX3_remove_47 hl (by decide) rfl (fun ls hl => ?_)
          refine lv_iload hx hb dX3_remove_49 (lv_at hl 0 rfl) ?_
          refine lv_iload_n hx hb dX3_remove_51 rfl (lv_at hl 6 rfl) ?_
          refine tr_icmp_eq (tgt := 68) hx hb hf dX3_remove_52 (by decide) (fun hc hf => ?_) (fun hc hf => ?_)
          · refine lv_iinc (v := tl_I (x3 + 1)) (lv' := [(7, .int (tl_I (x3 + 1))), (8, .int (tl_I z6)), (6, .int (tl_I x4)), (5, .int (tl_I (v_lengths z2.toNat))), (4, .int (tl_I z2)), (0, .ref a_this), (3, .int (tl_I p3))]) hx hb dX3_remove_68 hl (k := 1) rfl (tl_add _ _) (by decide) rfl (fun ls hl => ?_)
            refine lv_goto (tgt := 32) hx hb dX3_remove_71 (by decide) ?_
            exact ih (x3 + 1) x4 x5 out hf _ _ _ (hP.sub (ws' := [tl_ob a_this 4 [.ref a_words, .ref a_lengths], tl_ia (cy 1) a_lengths 1000 v_lengths, tl_ja (cy 2) a_words 2000 x5]) [1, 0, 2] rfl) (hD.sub (ws' := [tl_ob a_this 4 [.ref a_words, .ref a_lengths], tl_ia (cy 1) a_lengths 1000 v_lengths, tl_ja (cy 2) a_words 2000 x5]) [1, 0, 2] (by decide) rfl) hS (lv_sub hl [0, 2, 3, 4, 5, 6] rfl) hE
          · refine lv_aload_n hx hb dX3_remove_55 rfl (lv_at hl 5 rfl) ?_
            refine lv_iload hx hb dX3_remove_56 (lv_at hl 4 rfl) ?_
            refine lv_iload hx hb dX3_remove_58 (lv_at hl 2 rfl) ?_
            refine lv_iload hx hb dX3_remove_60 (lv_at hl 0 rfl) ?_
            obtain ⟨z7, hz, hf⟩ := tl_bs hf
            refine tl_callV0 (As := [.int (tl_I z2), .int (tl_I x4), .int (tl_I z6)]) (rest := []) (wr := [tl_ia (cy 1) a_lengths 1000 v_lengths]) ⟨hx, hb, hml, hown, hts⟩ (kt_X3_write l D cy a_this a_words a_lengths x5 z2 x4 z6 z7 hz) (cwV 3 hts tg_X3_43 rfl rfl rfl td_X3_write ⟨by decide, by decide⟩) hK hP hD hS hA [1, 2] [0] rfl rfl rfl rfl (by decide) 1 4 rfl rfl rfl rfl hl.1 rfl (Nat.le_of_ble_eq_true rfl) dX3_remove_62 ⟨by decide, by decide⟩ (fun v w1 H locs hp hP hD hS => ?_)
            obtain ⟨rfl, rfl⟩ := hp
            have hP : va_P D vwCl [tl_ia (cy 1) a_lengths 1000 v_lengths, tl_ob a_this 4 [.ref a_words, .ref a_lengths], tl_ja (cy 2) a_words 2000 z7] H := hP
            have hD : va_D A [tl_ia (cy 1) a_lengths 1000 v_lengths, tl_ob a_this 4 [.ref a_words, .ref a_lengths], tl_ja (cy 2) a_words 2000 z7] := hD
            refine W.eq (g2 := F0 m 65 ls []) rfl ?_
            refine lv_iinc (v := tl_I (x4 + 1)) (lv' := [(6, .int (tl_I (x4 + 1))), (8, .int (tl_I z6)), (7, .int (tl_I x3)), (5, .int (tl_I (v_lengths z2.toNat))), (4, .int (tl_I z2)), (0, .ref a_this), (3, .int (tl_I p3))]) hx hb dX3_remove_65 hl (k := 2) rfl (tl_add _ _) (by decide) rfl (fun ls hl => ?_)
            refine lv_iinc (v := tl_I (x3 + 1)) (lv' := [(7, .int (tl_I (x3 + 1))), (6, .int (tl_I (x4 + 1))), (8, .int (tl_I z6)), (5, .int (tl_I (v_lengths z2.toNat))), (4, .int (tl_I z2)), (0, .ref a_this), (3, .int (tl_I p3))]) hx hb dX3_remove_68 hl (k := 2) rfl (tl_add _ _) (by decide) rfl (fun ls hl => ?_)
            refine lv_goto (tgt := 32) hx hb dX3_remove_71 (by decide) ?_
            exact ih (x3 + 1) (x4 + 1) z7 out hf _ _ _ (hP.sub (ws' := [tl_ob a_this 4 [.ref a_words, .ref a_lengths], tl_ia (cy 1) a_lengths 1000 v_lengths, tl_ja (cy 2) a_words 2000 z7]) [1, 0, 2] rfl) (hD.sub (ws' := [tl_ob a_this 4 [.ref a_words, .ref a_lengths], tl_ia (cy 1) a_lengths 1000 v_lengths, tl_ja (cy 2) a_words 2000 z7]) [1, 0, 2] (by decide) rfl) hS (lv_sub hl [0, 1, 3, 4, 5, 6] rfl) hE
        · injection hf with hf
          subst hf
          exact hE x4 x5 rfl _ _ _ (hP.sub (ws' := [tl_ob a_this 4 [.ref a_words, .ref a_lengths], tl_ia (cy 1) a_lengths 1000 v_lengths, tl_ja (cy 2) a_words 2000 x5]) [0, 1, 2] rfl) (hD.sub (ws' := [tl_ob a_this 4 [.ref a_words, .ref a_lengths], tl_ia (cy 1) a_lengths 1000 v_lengths, tl_ja (cy 2) a_words 2000 x5]) [0, 1, 2] (by decide) rfl) hS (lv_sub hl [1, 2, 3, 4] rfl)
    obtain ⟨o, hz, hf⟩ := tl_bs hf
    refine lp1 tl_N (0 : Int) (0 : Int) v_words o hz _ _ _ (hP.sub (ws' := [tl_ob a_this 4 [.ref a_words, .ref a_lengths], tl_ia (cy 1) a_lengths 1000 v_lengths, tl_ja (cy 2) a_words 2000 v_words]) [0, 1, 2] rfl) (hD.sub (ws' := [tl_ob a_this 4 [.ref a_words, .ref a_lengths], tl_ia (cy 1) a_lengths 1000 v_lengths, tl_ja (cy 2) a_words 2000 v_words]) [0, 1, 2] (by decide) rfl) hS (lv_sub hl [0, 1, 2, 3, 4, 7] rfl) ?_
    intro x4 x5 ho H locs ls hP hD hS hl
    subst ho
    try dsimp only at hf
    refine lv_aload_n hx hb dX3_remove_74 rfl (lv_at hl 3 rfl) ?_
    refine va_get (ci := 4) (v := .ref a_lengths) (C := RX3) (T := TX3) (N := 2) hx hb hts in_X3 hown hK hP 0 rfl rfl 1 (by decide) (hts _ tw_242) (fun _ h9 => h9) rfl dX3_remove_75 ?_
    refine lv_iload hx hb dX3_remove_78 (lv_at hl 2 rfl) ?_
    refine lv_iload hx hb dX3_remove_80 (lv_at hl 0 rfl) ?_
    refine tr_iast hx hb hf hK hP hD hS 1 1 rfl rfl (by decide) dX3_remove_82 (fun hf H locs hP hD hS => ?_)
    have hP : va_P D vwCl [tl_ob a_this 4 [.ref a_words, .ref a_lengths], tl_ia (cy 1) a_lengths 1000 (va_up v_lengths z2.toNat x4), tl_ja (cy 2) a_words 2000 x5] H := hP
    have hD : va_D A [tl_ob a_this 4 [.ref a_words, .ref a_lengths], tl_ia (cy 1) a_lengths 1000 (va_up v_lengths z2.toNat x4), tl_ja (cy 2) a_words 2000 x5] := hD
    refine lv_iload hx hb dX3_remove_83 (lv_at hl 0 rfl) ?_
    refine lv_iload hx hb dX3_remove_85 (lv_at hl 1 rfl) ?_
    refine tr_icmp_ge (tgt := 94) hx hb hf dX3_remove_87 (by decide) (fun hc hf => ?_) (fun hc hf => ?_)
    · refine lv_iconst (v := tl_I (1 : Int)) hx hb dX3_remove_90 rfl ?_
      refine lv_goto (tgt := 95) hx hb dX3_remove_91 (by decide) ?_
      injection hf with hf
      subst hf
      exact W.zret (v := tl_I (1 : Int)) hx hb hr rfl (fun t ht hW => tl_fin hAe ⟨rfl, rfl⟩ (hP.sub (ws' := [tl_ob a_this 4 [.ref a_words, .ref a_lengths], tl_ia (cy 1) a_lengths 1000 (va_up v_lengths z2.toNat x4), tl_ja (cy 2) a_words 2000 x5]) [0, 1, 2] rfl) hK (hD.sub (ws' := [tl_ob a_this 4 [.ref a_words, .ref a_lengths], tl_ia (cy 1) a_lengths 1000 (va_up v_lengths z2.toNat x4), tl_ja (cy 2) a_words 2000 x5]) [0, 1, 2] (by decide) rfl) hS ht hW) hS.2.2 dX3_remove_95
    · refine lv_iconst (v := tl_I (0 : Int)) hx hb dX3_remove_94 rfl ?_
      injection hf with hf
      subst hf
      exact W.zret (v := tl_I (0 : Int)) hx hb hr rfl (fun t ht hW => tl_fin hAe ⟨rfl, rfl⟩ (hP.sub (ws' := [tl_ob a_this 4 [.ref a_words, .ref a_lengths], tl_ia (cy 1) a_lengths 1000 (va_up v_lengths z2.toNat x4), tl_ja (cy 2) a_words 2000 x5]) [0, 1, 2] rfl) hK (hD.sub (ws' := [tl_ob a_this 4 [.ref a_words, .ref a_lengths], tl_ia (cy 1) a_lengths 1000 (va_up v_lengths z2.toNat x4), tl_ja (cy 2) a_words 2000 x5]) [0, 1, 2] (by decide) rfl) hS ht hW) hS.2.2 dX3_remove_95
end
section
set_option maxHeartbeats 4000000 in
set_option maxRecDepth 100000 in
theorem kt_X1_has (l : Launch) (D : va_G) (cy : Nat → ClassId) (a_this a_numbers a_kinds a_has a_had : Nat) (v_this_objects : Int) (v_this_pairs : Int) (z : Unit) (hf : fX1_has v_this_objects v_this_pairs = some z) :
    tl_MC l D (tl_tys cy) yX1_has (tl_w yX1_has cX1_has 1 (some (.object "TwinLinks$Rows"))) { frames := 0, cells := 0, slots := 0, locals := 0 } [.ref a_this] [tl_ob a_this 2 [.ref a_numbers, .ref a_kinds, .ref a_has, .ref a_had, .int (tl_I v_this_objects), .int (tl_I v_this_pairs)]] 0 0 (fun v w1 => v = some (.ref a_has) ∧ w1 = [tl_ob a_this 2 [.ref a_numbers, .ref a_kinds, .ref a_has, .ref a_had, .int (tl_I v_this_objects), .int (tl_I v_this_pairs)]]) := by
  refine tl_ofW (cc := cX1_has) (maxL := 1) (ret := (some (.object "TwinLinks$Rows"))) (by decide +kernel) (Nat.le_of_ble_eq_true rfl) ?_
  intro p e s m below meth c hx hb hr hml hts hown hlocks hnm A hAe hA hP hK hD hS ls hl
  have hl : lv_has ls 1 [(0, .ref a_this)] := hl
  unfold fX1_has at hf
  refine lv_aload_n hx hb dX1_has_0 rfl (lv_at hl 0 rfl) ?_
  refine va_get (ci := 2) (v := .ref a_has) (C := RX1) (T := TX1) (N := 6) hx hb hts in_X1 hown hK hP 0 rfl rfl 2 (by decide) (hts _ tw_251) (fun _ h9 => h9) rfl dX1_has_1 ?_
  injection hf with hf
  subst hf
  exact W.aret (v := .ref a_has) hx hb hr (Or.inl ⟨_, rfl⟩) (Or.inr ⟨_, rfl⟩) (fun t ht hW => tl_fin hAe ⟨rfl, rfl⟩ (hP.sub (ws' := [tl_ob a_this 2 [.ref a_numbers, .ref a_kinds, .ref a_has, .ref a_had, .int (tl_I v_this_objects), .int (tl_I v_this_pairs)]]) [0] rfl) hK (hD.sub (ws' := [tl_ob a_this 2 [.ref a_numbers, .ref a_kinds, .ref a_has, .ref a_had, .int (tl_I v_this_objects), .int (tl_I v_this_pairs)]]) [0] (by decide) rfl) hS ht hW) hS.2.2 dX1_has_4
set_option maxHeartbeats 4000000 in
set_option maxRecDepth 100000 in
theorem kt_X1_had (l : Launch) (D : va_G) (cy : Nat → ClassId) (a_this a_numbers a_kinds a_has a_had : Nat) (v_this_objects : Int) (v_this_pairs : Int) (z : Unit) (hf : fX1_had v_this_objects v_this_pairs = some z) :
    tl_MC l D (tl_tys cy) yX1_had (tl_w yX1_had cX1_had 1 (some (.object "TwinLinks$Rows"))) { frames := 0, cells := 0, slots := 0, locals := 0 } [.ref a_this] [tl_ob a_this 2 [.ref a_numbers, .ref a_kinds, .ref a_has, .ref a_had, .int (tl_I v_this_objects), .int (tl_I v_this_pairs)]] 0 0 (fun v w1 => v = some (.ref a_had) ∧ w1 = [tl_ob a_this 2 [.ref a_numbers, .ref a_kinds, .ref a_has, .ref a_had, .int (tl_I v_this_objects), .int (tl_I v_this_pairs)]]) := by
  refine tl_ofW (cc := cX1_had) (maxL := 1) (ret := (some (.object "TwinLinks$Rows"))) (by decide +kernel) (Nat.le_of_ble_eq_true rfl) ?_
  intro p e s m below meth c hx hb hr hml hts hown hlocks hnm A hAe hA hP hK hD hS ls hl
  have hl : lv_has ls 1 [(0, .ref a_this)] := hl
  unfold fX1_had at hf
  refine lv_aload_n hx hb dX1_had_0 rfl (lv_at hl 0 rfl) ?_
  refine va_get (ci := 2) (v := .ref a_had) (C := RX1) (T := TX1) (N := 6) hx hb hts in_X1 hown hK hP 0 rfl rfl 3 (by decide) (hts _ tw_252) (fun _ h9 => h9) rfl dX1_had_1 ?_
  injection hf with hf
  subst hf
  exact W.aret (v := .ref a_had) hx hb hr (Or.inl ⟨_, rfl⟩) (Or.inr ⟨_, rfl⟩) (fun t ht hW => tl_fin hAe ⟨rfl, rfl⟩ (hP.sub (ws' := [tl_ob a_this 2 [.ref a_numbers, .ref a_kinds, .ref a_has, .ref a_had, .int (tl_I v_this_objects), .int (tl_I v_this_pairs)]]) [0] rfl) hK (hD.sub (ws' := [tl_ob a_this 2 [.ref a_numbers, .ref a_kinds, .ref a_has, .ref a_had, .int (tl_I v_this_objects), .int (tl_I v_this_pairs)]]) [0] (by decide) rfl) hS ht hW) hS.2.2 dX1_had_4
set_option maxHeartbeats 4000000 in
set_option maxRecDepth 100000 in
theorem kt_X1_objects (l : Launch) (D : va_G) (cy : Nat → ClassId) (a_this a_numbers a_kinds a_has a_had : Nat) (v_this_objects : Int) (v_this_pairs : Int) (z : Int) (hf : fX1_objects v_this_objects v_this_pairs = some z) :
    tl_MC l D (tl_tys cy) yX1_objects (tl_w yX1_objects cX1_objects 1 (some .int)) { frames := 0, cells := 0, slots := 0, locals := 0 } [.ref a_this] [tl_ob a_this 2 [.ref a_numbers, .ref a_kinds, .ref a_has, .ref a_had, .int (tl_I v_this_objects), .int (tl_I v_this_pairs)]] 0 0 (fun v w1 => v = some (.int (tl_I z)) ∧ w1 = [tl_ob a_this 2 [.ref a_numbers, .ref a_kinds, .ref a_has, .ref a_had, .int (tl_I v_this_objects), .int (tl_I v_this_pairs)]]) := by
  refine tl_ofW (cc := cX1_objects) (maxL := 1) (ret := (some .int)) (by decide +kernel) (Nat.le_of_ble_eq_true rfl) ?_
  intro p e s m below meth c hx hb hr hml hts hown hlocks hnm A hAe hA hP hK hD hS ls hl
  have hl : lv_has ls 1 [(0, .ref a_this)] := hl
  unfold fX1_objects at hf
  refine lv_aload_n hx hb dX1_objects_0 rfl (lv_at hl 0 rfl) ?_
  refine va_get (ci := 2) (v := .int (tl_I v_this_objects)) (C := RX1) (T := TX1) (N := 6) hx hb hts in_X1 hown hK hP 0 rfl rfl 4 (by decide) (hts _ tw_253) (fun _ h9 => h9) rfl dX1_objects_1 ?_
  injection hf with hf
  subst hf
  exact W.iret (v := tl_I v_this_objects) hx hb hr (fun t ht hW => tl_fin hAe ⟨rfl, rfl⟩ (hP.sub (ws' := [tl_ob a_this 2 [.ref a_numbers, .ref a_kinds, .ref a_has, .ref a_had, .int (tl_I v_this_objects), .int (tl_I v_this_pairs)]]) [0] rfl) hK (hD.sub (ws' := [tl_ob a_this 2 [.ref a_numbers, .ref a_kinds, .ref a_has, .ref a_had, .int (tl_I v_this_objects), .int (tl_I v_this_pairs)]]) [0] (by decide) rfl) hS ht hW) hS.2.2 dX1_objects_4
set_option maxHeartbeats 4000000 in
set_option maxRecDepth 100000 in
theorem kt_X1_pairs (l : Launch) (D : va_G) (cy : Nat → ClassId) (a_this a_numbers a_kinds a_has a_had : Nat) (v_this_objects : Int) (v_this_pairs : Int) (z : Int) (hf : fX1_pairs v_this_objects v_this_pairs = some z) :
    tl_MC l D (tl_tys cy) yX1_pairs (tl_w yX1_pairs cX1_pairs 1 (some .int)) { frames := 0, cells := 0, slots := 0, locals := 0 } [.ref a_this] [tl_ob a_this 2 [.ref a_numbers, .ref a_kinds, .ref a_has, .ref a_had, .int (tl_I v_this_objects), .int (tl_I v_this_pairs)]] 0 0 (fun v w1 => v = some (.int (tl_I z)) ∧ w1 = [tl_ob a_this 2 [.ref a_numbers, .ref a_kinds, .ref a_has, .ref a_had, .int (tl_I v_this_objects), .int (tl_I v_this_pairs)]]) := by
  refine tl_ofW (cc := cX1_pairs) (maxL := 1) (ret := (some .int)) (by decide +kernel) (Nat.le_of_ble_eq_true rfl) ?_
  intro p e s m below meth c hx hb hr hml hts hown hlocks hnm A hAe hA hP hK hD hS ls hl
  have hl : lv_has ls 1 [(0, .ref a_this)] := hl
  unfold fX1_pairs at hf
  refine lv_aload_n hx hb dX1_pairs_0 rfl (lv_at hl 0 rfl) ?_
  refine va_get (ci := 2) (v := .int (tl_I v_this_pairs)) (C := RX1) (T := TX1) (N := 6) hx hb hts in_X1 hown hK hP 0 rfl rfl 5 (by decide) (hts _ tw_254) (fun _ h9 => h9) rfl dX1_pairs_1 ?_
  injection hf with hf
  subst hf
  exact W.iret (v := tl_I v_this_pairs) hx hb hr (fun t ht hW => tl_fin hAe ⟨rfl, rfl⟩ (hP.sub (ws' := [tl_ob a_this 2 [.ref a_numbers, .ref a_kinds, .ref a_has, .ref a_had, .int (tl_I v_this_objects), .int (tl_I v_this_pairs)]]) [0] rfl) hK (hD.sub (ws' := [tl_ob a_this 2 [.ref a_numbers, .ref a_kinds, .ref a_has, .ref a_had, .int (tl_I v_this_objects), .int (tl_I v_this_pairs)]]) [0] (by decide) rfl) hS ht hW) hS.2.2 dX1_pairs_4
set_option maxHeartbeats 4000000 in
set_option maxRecDepth 100000 in
theorem kt_X1_slotBearing (l : Launch) (D : va_G) (cy : Nat → ClassId) (a_this a_numbers a_kinds a_has a_had : Nat) (v_this_objects : Int) (v_this_pairs : Int) (v_numbers : Nat → Int) (p1 : Int) (z : Int) (hf : fX1_slotBearing v_this_objects v_this_pairs v_numbers p1 = some z) :
    tl_MC l D (tl_tys cy) yX1_slotBearing (tl_w yX1_slotBearing cX1_slotBearing 3 (some .int)) { frames := 0, cells := 0, slots := 0, locals := 0 } [.ref a_this, .int (tl_I p1)] [tl_ob a_this 2 [.ref a_numbers, .ref a_kinds, .ref a_has, .ref a_had, .int (tl_I v_this_objects), .int (tl_I v_this_pairs)], tl_ia (cy 1) a_numbers 100 v_numbers] 0 0 (fun v w1 => v = some (.int (tl_I z)) ∧ w1 = [tl_ob a_this 2 [.ref a_numbers, .ref a_kinds, .ref a_has, .ref a_had, .int (tl_I v_this_objects), .int (tl_I v_this_pairs)], tl_ia (cy 1) a_numbers 100 v_numbers]) := by
  refine tl_ofW (cc := cX1_slotBearing) (maxL := 3) (ret := (some .int)) (by decide +kernel) (Nat.le_of_ble_eq_true rfl) ?_
  intro p e s m below meth c hx hb hr hml hts hown hlocks hnm A hAe hA hP hK hD hS ls hl
  have hl : lv_has ls 3 [(0, .ref a_this), (1, .int (tl_I p1))] := hl
  unfold fX1_slotBearing at hf
  refine lv_iconst (v := tl_I (0 : Int)) hx hb dX1_slotBearing_0 rfl ?_
  refine lv_istore_n (lv' := [(2, .int (tl_I (0 : Int))), (0, .ref a_this), (1, .int (tl_I p1))]) hx hb dX1_slotBearing_1 rfl hl (by decide) rfl (fun ls hl => ?_)
  have lp1 : ∀ (n : Nat) (x1 : Int) (out : (Unit) ⊕ (Int)), fX1_slotBearing_L1 v_numbers p1 n x1 = some out → ∀ (H : Heap) (locs : List Loc) (ls : Array Slot), va_P D vwCl [tl_ob a_this 2 [.ref a_numbers, .ref a_kinds, .ref a_has, .ref a_had, .int (tl_I v_this_objects), .int (tl_I v_this_pairs)], tl_ia (cy 1) a_numbers 100 v_numbers] H → va_D A [tl_ob a_this 2 [.ref a_numbers, .ref a_kinds, .ref a_has, .ref a_had, .int (tl_I v_this_objects), .int (tl_I v_this_pairs)], tl_ia (cy 1) a_numbers 100 v_numbers] → va_S A s.heap H locs → lv_has ls 3 [(2, .int (tl_I x1)), (0, .ref a_this), (1, .int (tl_I p1))] → (out = .inl () → ∀ (H : Heap) (locs : List Loc) (ls : Array Slot), va_P D vwCl [tl_ob a_this 2 [.ref a_numbers, .ref a_kinds, .ref a_has, .ref a_had, .int (tl_I v_this_objects), .int (tl_I v_this_pairs)], tl_ia (cy 1) a_numbers 100 v_numbers] H → va_D A [tl_ob a_this 2 [.ref a_numbers, .ref a_kinds, .ref a_has, .ref a_had, .int (tl_I v_this_objects), .int (tl_I v_this_pairs)], tl_ia (cy 1) a_numbers 100 v_numbers] → va_S A s.heap H locs → lv_has ls 3 [] → W p l e { frames := 0, cells := 0, slots := 0, locals := 0 } s m ([.ref a_this, .int (tl_I p1)] : List Value).toArray below meth c H locs 0 0 (MQ below (tl_Q D (tl_tys cy) [tl_ob a_this 2 [.ref a_numbers, .ref a_kinds, .ref a_has, .ref a_had, .int (tl_I v_this_objects), .int (tl_I v_this_pairs)], tl_ia (cy 1) a_numbers 100 v_numbers] s.heap.size (fun v w1 => v = some (.int (tl_I z)) ∧ w1 = [tl_ob a_this 2 [.ref a_numbers, .ref a_kinds, .ref a_has, .ref a_had, .int (tl_I v_this_objects), .int (tl_I v_this_pairs)], tl_ia (cy 1) a_numbers 100 v_numbers])) ([.ref a_this, .int (tl_I p1)] : List Value).toArray s 0 0 A) (F0 m 26 ls [])) → (∀ r, out = .inr r → r = z) → W p l e { frames := 0, cells := 0, slots := 0, locals := 0 } s m ([.ref a_this, .int (tl_I p1)] : List Value).toArray below meth c H locs 0 0 (MQ below (tl_Q D (tl_tys cy) [tl_ob a_this 2 [.ref a_numbers, .ref a_kinds, .ref a_has, .ref a_had, .int (tl_I v_this_objects), .int (tl_I v_this_pairs)], tl_ia (cy 1) a_numbers 100 v_numbers] s.heap.size (fun v w1 => v = some (.int (tl_I z)) ∧ w1 = [tl_ob a_this 2 [.ref a_numbers, .ref a_kinds, .ref a_has, .ref a_had, .int (tl_I v_this_objects), .int (tl_I v_this_pairs)], tl_ia (cy 1) a_numbers 100 v_numbers])) ([.ref a_this, .int (tl_I p1)] : List Value).toArray s 0 0 A) (F0 m 2 ls []) := by
    intro n
    induction n with
    | zero =>
      intro x1 out hf
      cases hf
    | succ n ih =>
      intro x1 out hf H locs ls hP hD hS hl hE hX
      rw [fX1_slotBearing_L1] at hf
      refine lv_iload_n hx hb dX1_slotBearing_2 rfl (lv_at hl 0 rfl) ?_
      refine lv_bipush (v := tl_I (100 : Int)) hx hb dX1_slotBearing_3 rfl ?_
      refine tr_icmp_ge (tgt := 26) hx hb hf dX1_slotBearing_5 (by decide) (fun hc hf => ?_) (fun hc hf => ?_)
      · refine lv_aload_n hx hb dX1_slotBearing_8 rfl (lv_at hl 1 rfl) ?_
        refine va_get (ci := 2) (v := .ref a_numbers) (C := RX1) (T := TX1) (N := 6) hx hb hts in_X1 hown hK hP 0 rfl rfl 0 (by decide) (hts _ tw_249) (fun _ h9 => h9) rfl dX1_slotBearing_9 ?_
        refine lv_iload_n hx hb dX1_slotBearing_12 rfl (lv_at hl 0 rfl) ?_
        refine tr_iald hx hb hf hK hP 1 1 rfl rfl (by decide) dX1_slotBearing_13 (fun hf => ?_)
        refine lv_iload_n hx hb dX1_slotBearing_14 rfl (lv_at hl 2 rfl) ?_
        refine tr_icmp_ne (tgt := 20) hx hb hf dX1_slotBearing_15 (by decide) (fun hc hf => ?_) (fun hc hf => ?_)
        · refine lv_iload_n hx hb dX1_slotBearing_18 rfl (lv_at hl 0 rfl) ?_
          injection hf with hf
          subst hf
          have hf := hX _ rfl
          subst hf
          exact W.iret (v := tl_I x1) hx hb hr (fun t ht hW => tl_fin hAe ⟨rfl, rfl⟩ (hP.sub (ws' := [tl_ob a_this 2 [.ref a_numbers, .ref a_kinds, .ref a_has, .ref a_had, .int (tl_I v_this_objects), .int (tl_I v_this_pairs)], tl_ia (cy 1) a_numbers 100 v_numbers]) [0, 1] rfl) hK (hD.sub (ws' := [tl_ob a_this 2 [.ref a_numbers, .ref a_kinds, .ref a_has, .ref a_had, .int (tl_I v_this_objects), .int (tl_I v_this_pairs)], tl_ia (cy 1) a_numbers 100 v_numbers]) [0, 1] (by decide) rfl) hS ht hW) hS.2.2 dX1_slotBearing_19
        · refine lv_iinc (v := tl_I (x1 + 1)) (lv' := [(2, .int (tl_I (x1 + 1))), (0, .ref a_this), (1, .int (tl_I p1))]) hx hb dX1_slotBearing_20 hl (k := 0) rfl (tl_add _ _) (by decide) rfl (fun ls hl => ?_)
          refine lv_goto (tgt := 2) hx hb dX1_slotBearing_23 (by decide) ?_
          exact ih (x1 + 1) out hf _ _ _ (hP.sub (ws' := [tl_ob a_this 2 [.ref a_numbers, .ref a_kinds, .ref a_has, .ref a_had, .int (tl_I v_this_objects), .int (tl_I v_this_pairs)], tl_ia (cy 1) a_numbers 100 v_numbers]) [0, 1] rfl) (hD.sub (ws' := [tl_ob a_this 2 [.ref a_numbers, .ref a_kinds, .ref a_has, .ref a_had, .int (tl_I v_this_objects), .int (tl_I v_this_pairs)], tl_ia (cy 1) a_numbers 100 v_numbers]) [0, 1] (by decide) rfl) hS (lv_sub hl [0, 1, 2] rfl) hE hX
      · injection hf with hf
        subst hf
        exact hE  rfl _ _ _ (hP.sub (ws' := [tl_ob a_this 2 [.ref a_numbers, .ref a_kinds, .ref a_has, .ref a_had, .int (tl_I v_this_objects), .int (tl_I v_this_pairs)], tl_ia (cy 1) a_numbers 100 v_numbers]) [0, 1] rfl) (hD.sub (ws' := [tl_ob a_this 2 [.ref a_numbers, .ref a_kinds, .ref a_has, .ref a_had, .int (tl_I v_this_objects), .int (tl_I v_this_pairs)], tl_ia (cy 1) a_numbers 100 v_numbers]) [0, 1] (by decide) rfl) hS (lv_sub hl [] rfl)
  obtain ⟨o, hz, hf⟩ := tl_bs hf
  refine lp1 tl_N (0 : Int) o hz _ _ _ (hP.sub (ws' := [tl_ob a_this 2 [.ref a_numbers, .ref a_kinds, .ref a_has, .ref a_had, .int (tl_I v_this_objects), .int (tl_I v_this_pairs)], tl_ia (cy 1) a_numbers 100 v_numbers]) [0, 1] rfl) (hD.sub (ws' := [tl_ob a_this 2 [.ref a_numbers, .ref a_kinds, .ref a_has, .ref a_had, .int (tl_I v_this_objects), .int (tl_I v_this_pairs)], tl_ia (cy 1) a_numbers 100 v_numbers]) [0, 1] (by decide) rfl) hS (lv_sub hl [0, 1, 2] rfl) ?_ ?_
  · intro  ho H locs ls hP hD hS hl
    subst ho
    try dsimp only at hf
    refine lv_iconst (v := tl_I (-1 : Int)) hx hb dX1_slotBearing_26 rfl ?_
    injection hf with hf
    subst hf
    exact W.iret (v := tl_I (-1 : Int)) hx hb hr (fun t ht hW => tl_fin hAe ⟨rfl, rfl⟩ (hP.sub (ws' := [tl_ob a_this 2 [.ref a_numbers, .ref a_kinds, .ref a_has, .ref a_had, .int (tl_I v_this_objects), .int (tl_I v_this_pairs)], tl_ia (cy 1) a_numbers 100 v_numbers]) [0, 1] rfl) hK (hD.sub (ws' := [tl_ob a_this 2 [.ref a_numbers, .ref a_kinds, .ref a_has, .ref a_had, .int (tl_I v_this_objects), .int (tl_I v_this_pairs)], tl_ia (cy 1) a_numbers 100 v_numbers]) [0, 1] (by decide) rfl) hS ht hW) hS.2.2 dX1_slotBearing_27
  · intro r ho
    subst ho
    dsimp only at hf
    injection hf
set_option maxHeartbeats 4000000 in
set_option maxRecDepth 100000 in
theorem kt_X1_slotOf (l : Launch) (D : va_G) (cy : Nat → ClassId) (a_this a_numbers a_kinds a_has a_had : Nat) (v_this_objects : Int) (v_this_pairs : Int) (v_numbers : Nat → Int) (p1 : Int) (z : Int) (hf : fX1_slotOf v_this_objects v_this_pairs v_numbers p1 = some z) :
    tl_MC l D (tl_tys cy) yX1_slotOf (tl_w yX1_slotOf cX1_slotOf 2 (some .int)) { frames := 1, cells := 0, slots := 0, locals := 22 } [.ref a_this, .int (tl_I p1)] [tl_ob a_this 2 [.ref a_numbers, .ref a_kinds, .ref a_has, .ref a_had, .int (tl_I v_this_objects), .int (tl_I v_this_pairs)], tl_ia (cy 1) a_numbers 100 v_numbers] 0 0 (fun v w1 => v = some (.int (tl_I z)) ∧ w1 = [tl_ob a_this 2 [.ref a_numbers, .ref a_kinds, .ref a_has, .ref a_had, .int (tl_I v_this_objects), .int (tl_I v_this_pairs)], tl_ia (cy 1) a_numbers 100 v_numbers]) := by
  refine tl_ofW (cc := cX1_slotOf) (maxL := 2) (ret := (some .int)) (by decide +kernel) (Nat.le_of_ble_eq_true rfl) ?_
  intro p e s m below meth c hx hb hr hml hts hown hlocks hnm A hAe hA hP hK hD hS ls hl
  have hl : lv_has ls 2 [(0, .ref a_this), (1, .int (tl_I p1))] := hl
  unfold fX1_slotOf at hf
  refine lv_iload_n hx hb dX1_slotOf_0 rfl (lv_at hl 1 rfl) ?_
  refine tr_if_ge (tgt := 8) hx hb hf dX1_slotOf_1 (by decide) (fun hc hf => ?_) (fun hc hf => ?_)
  · refine lv_iconst (v := tl_I (-1 : Int)) hx hb dX1_slotOf_4 rfl ?_
    refine lv_goto (tgt := 13) hx hb dX1_slotOf_5 (by decide) ?_
    injection hf with hf
    subst hf
    exact W.iret (v := tl_I (-1 : Int)) hx hb hr (fun t ht hW => tl_fin hAe ⟨rfl, rfl⟩ (hP.sub (ws' := [tl_ob a_this 2 [.ref a_numbers, .ref a_kinds, .ref a_has, .ref a_had, .int (tl_I v_this_objects), .int (tl_I v_this_pairs)], tl_ia (cy 1) a_numbers 100 v_numbers]) [0, 1] rfl) hK (hD.sub (ws' := [tl_ob a_this 2 [.ref a_numbers, .ref a_kinds, .ref a_has, .ref a_had, .int (tl_I v_this_objects), .int (tl_I v_this_pairs)], tl_ia (cy 1) a_numbers 100 v_numbers]) [0, 1] (by decide) rfl) hS ht hW) hS.2.2 dX1_slotOf_13
  · refine lv_aload_n hx hb dX1_slotOf_8 rfl (lv_at hl 0 rfl) ?_
    refine lv_iload_n hx hb dX1_slotOf_9 rfl (lv_at hl 1 rfl) ?_
    obtain ⟨z1, hz, hf⟩ := tl_bs hf
    refine tl_callV0 (As := [.int (tl_I p1)]) (rest := []) (wr := []) ⟨hx, hb, hml, hown, hts⟩ (kt_X1_slotBearing l D cy a_this a_numbers a_kinds a_has a_had v_this_objects v_this_pairs v_numbers p1 z1 hz) (cwV 1 hts tg_X1_35 rfl rfl rfl td_X1_slotBearing ⟨by decide, by decide⟩) hK hP hD hS hA [0, 1] [] rfl rfl rfl rfl (by decide) 0 2 rfl rfl rfl rfl hl.1 rfl (Nat.le_of_ble_eq_true rfl) dX1_slotOf_10 ⟨by decide, by decide⟩ (fun v w1 H locs hp hP hD hS => ?_)
    obtain ⟨rfl, rfl⟩ := hp
    have hP : va_P D vwCl [tl_ob a_this 2 [.ref a_numbers, .ref a_kinds, .ref a_has, .ref a_had, .int (tl_I v_this_objects), .int (tl_I v_this_pairs)], tl_ia (cy 1) a_numbers 100 v_numbers] H := hP
    have hD : va_D A [tl_ob a_this 2 [.ref a_numbers, .ref a_kinds, .ref a_has, .ref a_had, .int (tl_I v_this_objects), .int (tl_I v_this_pairs)], tl_ia (cy 1) a_numbers 100 v_numbers] := hD
    refine W.eq (g2 := F0 m 13 ls [.int (tl_I z1)]) rfl ?_
    injection hf with hf
    subst hf
    exact W.iret (v := tl_I z1) hx hb hr (fun t ht hW => tl_fin hAe ⟨rfl, rfl⟩ (hP.sub (ws' := [tl_ob a_this 2 [.ref a_numbers, .ref a_kinds, .ref a_has, .ref a_had, .int (tl_I v_this_objects), .int (tl_I v_this_pairs)], tl_ia (cy 1) a_numbers 100 v_numbers]) [0, 1] rfl) hK (hD.sub (ws' := [tl_ob a_this 2 [.ref a_numbers, .ref a_kinds, .ref a_has, .ref a_had, .int (tl_I v_this_objects), .int (tl_I v_this_pairs)], tl_ia (cy 1) a_numbers 100 v_numbers]) [0, 1] (by decide) rfl) hS ht hW) hS.2.2 dX1_slotOf_13
set_option maxHeartbeats 4000000 in
set_option maxRecDepth 100000 in
theorem kt_X1_numberOf (l : Launch) (D : va_G) (cy : Nat → ClassId) (a_this a_numbers a_kinds a_has a_had : Nat) (v_this_objects : Int) (v_this_pairs : Int) (v_numbers : Nat → Int) (p1 : Int) (z : Int) (hf : fX1_numberOf v_this_objects v_this_pairs v_numbers p1 = some z) :
    tl_MC l D (tl_tys cy) yX1_numberOf (tl_w yX1_numberOf cX1_numberOf 2 (some .int)) { frames := 1, cells := 0, slots := 0, locals := 20 } [.ref a_this, .int (tl_I p1)] [tl_ob a_this 2 [.ref a_numbers, .ref a_kinds, .ref a_has, .ref a_had, .int (tl_I v_this_objects), .int (tl_I v_this_pairs)], tl_ia (cy 1) a_numbers 100 v_numbers] 0 0 (fun v w1 => v = some (.int (tl_I z)) ∧ w1 = [tl_ob a_this 2 [.ref a_numbers, .ref a_kinds, .ref a_has, .ref a_had, .int (tl_I v_this_objects), .int (tl_I v_this_pairs)], tl_ia (cy 1) a_numbers 100 v_numbers]) := by
  refine tl_ofW (cc := cX1_numberOf) (maxL := 2) (ret := (some .int)) (by decide +kernel) (Nat.le_of_ble_eq_true rfl) ?_
  intro p e s m below meth c hx hb hr hml hts hown hlocks hnm A hAe hA hP hK hD hS ls hl
  have hl : lv_has ls 2 [(0, .ref a_this), (1, .int (tl_I p1))] := hl
  unfold fX1_numberOf at hf
  refine lv_iload_n hx hb dX1_numberOf_0 rfl (lv_at hl 1 rfl) ?_
  obtain ⟨z1, hz, hf⟩ := tl_bs hf
  refine tl_callS0 (As := [.int (tl_I p1)]) (rest := []) (wr := [tl_ob a_this 2 [.ref a_numbers, .ref a_kinds, .ref a_has, .ref a_had, .int (tl_I v_this_objects), .int (tl_I v_this_pairs)], tl_ia (cy 1) a_numbers 100 v_numbers]) ⟨hx, hb, hml, hown, hts⟩ (kt_X4_isSlot l D cy p1 z1 hz) (va_cwS 1 hts tg_X1_39 rfl rfl rfl td_X4_isSlot ⟨by decide, by decide⟩) hK hP hD hS hA [] [0, 1] rfl rfl rfl rfl (by decide) rfl hl.1 rfl (Nat.le_of_ble_eq_true rfl) dX1_numberOf_1 ⟨by decide, by decide⟩ (fun v w1 H locs hp hP hD hS => ?_)
  obtain ⟨rfl, rfl⟩ := hp
  have hP : va_P D vwCl [tl_ob a_this 2 [.ref a_numbers, .ref a_kinds, .ref a_has, .ref a_had, .int (tl_I v_this_objects), .int (tl_I v_this_pairs)], tl_ia (cy 1) a_numbers 100 v_numbers] H := hP
  have hD : va_D A [tl_ob a_this 2 [.ref a_numbers, .ref a_kinds, .ref a_has, .ref a_had, .int (tl_I v_this_objects), .int (tl_I v_this_pairs)], tl_ia (cy 1) a_numbers 100 v_numbers] := hD
  refine W.eq (g2 := F0 m 4 ls [.int (tl_I z1)]) rfl ?_
  refine tr_if_eq (tgt := 16) hx hb hf dX1_numberOf_4 (by decide) (fun hc hf => ?_) (fun hc hf => ?_)
  · refine lv_iconst (v := tl_I (-1 : Int)) hx hb dX1_numberOf_16 rfl ?_
    injection hf with hf
    subst hf
    exact W.iret (v := tl_I (-1 : Int)) hx hb hr (fun t ht hW => tl_fin hAe ⟨rfl, rfl⟩ (hP.sub (ws' := [tl_ob a_this 2 [.ref a_numbers, .ref a_kinds, .ref a_has, .ref a_had, .int (tl_I v_this_objects), .int (tl_I v_this_pairs)], tl_ia (cy 1) a_numbers 100 v_numbers]) [0, 1] rfl) hK (hD.sub (ws' := [tl_ob a_this 2 [.ref a_numbers, .ref a_kinds, .ref a_has, .ref a_had, .int (tl_I v_this_objects), .int (tl_I v_this_pairs)], tl_ia (cy 1) a_numbers 100 v_numbers]) [0, 1] (by decide) rfl) hS ht hW) hS.2.2 dX1_numberOf_17
  · refine lv_aload_n hx hb dX1_numberOf_7 rfl (lv_at hl 0 rfl) ?_
    refine va_get (ci := 2) (v := .ref a_numbers) (C := RX1) (T := TX1) (N := 6) hx hb hts in_X1 hown hK hP 0 rfl rfl 0 (by decide) (hts _ tw_249) (fun _ h9 => h9) rfl dX1_numberOf_8 ?_
    refine lv_iload_n hx hb dX1_numberOf_11 rfl (lv_at hl 1 rfl) ?_
    refine tr_iald hx hb hf hK hP 1 1 rfl rfl (by decide) dX1_numberOf_12 (fun hf => ?_)
    refine lv_goto (tgt := 17) hx hb dX1_numberOf_13 (by decide) ?_
    injection hf with hf
    subst hf
    exact W.iret (v := tl_I (v_numbers p1.toNat)) hx hb hr (fun t ht hW => tl_fin hAe ⟨rfl, rfl⟩ (hP.sub (ws' := [tl_ob a_this 2 [.ref a_numbers, .ref a_kinds, .ref a_has, .ref a_had, .int (tl_I v_this_objects), .int (tl_I v_this_pairs)], tl_ia (cy 1) a_numbers 100 v_numbers]) [0, 1] rfl) hK (hD.sub (ws' := [tl_ob a_this 2 [.ref a_numbers, .ref a_kinds, .ref a_has, .ref a_had, .int (tl_I v_this_objects), .int (tl_I v_this_pairs)], tl_ia (cy 1) a_numbers 100 v_numbers]) [0, 1] (by decide) rfl) hS ht hW) hS.2.2 dX1_numberOf_17
set_option maxHeartbeats 4000000 in
set_option maxRecDepth 100000 in
theorem kt_X1_kindOf (l : Launch) (D : va_G) (cy : Nat → ClassId) (a_this a_kinds a_numbers a_has a_had : Nat) (v_this_objects : Int) (v_this_pairs : Int) (v_kinds : Nat → Int) (p1 : Int) (z : Int) (hf : fX1_kindOf v_this_objects v_this_pairs v_kinds p1 = some z) :
    tl_MC l D (tl_tys cy) yX1_kindOf (tl_w yX1_kindOf cX1_kindOf 2 (some .int)) { frames := 1, cells := 0, slots := 0, locals := 20 } [.ref a_this, .int (tl_I p1)] [tl_ob a_this 2 [.ref a_numbers, .ref a_kinds, .ref a_has, .ref a_had, .int (tl_I v_this_objects), .int (tl_I v_this_pairs)], tl_ia (cy 1) a_kinds 100 v_kinds] 0 0 (fun v w1 => v = some (.int (tl_I z)) ∧ w1 = [tl_ob a_this 2 [.ref a_numbers, .ref a_kinds, .ref a_has, .ref a_had, .int (tl_I v_this_objects), .int (tl_I v_this_pairs)], tl_ia (cy 1) a_kinds 100 v_kinds]) := by
  refine tl_ofW (cc := cX1_kindOf) (maxL := 2) (ret := (some .int)) (by decide +kernel) (Nat.le_of_ble_eq_true rfl) ?_
  intro p e s m below meth c hx hb hr hml hts hown hlocks hnm A hAe hA hP hK hD hS ls hl
  have hl : lv_has ls 2 [(0, .ref a_this), (1, .int (tl_I p1))] := hl
  unfold fX1_kindOf at hf
  refine lv_iload_n hx hb dX1_kindOf_0 rfl (lv_at hl 1 rfl) ?_
  obtain ⟨z1, hz, hf⟩ := tl_bs hf
  refine tl_callS0 (As := [.int (tl_I p1)]) (rest := []) (wr := [tl_ob a_this 2 [.ref a_numbers, .ref a_kinds, .ref a_has, .ref a_had, .int (tl_I v_this_objects), .int (tl_I v_this_pairs)], tl_ia (cy 1) a_kinds 100 v_kinds]) ⟨hx, hb, hml, hown, hts⟩ (kt_X4_isSlot l D cy p1 z1 hz) (va_cwS 1 hts tg_X1_39 rfl rfl rfl td_X4_isSlot ⟨by decide, by decide⟩) hK hP hD hS hA [] [0, 1] rfl rfl rfl rfl (by decide) rfl hl.1 rfl (Nat.le_of_ble_eq_true rfl) dX1_kindOf_1 ⟨by decide, by decide⟩ (fun v w1 H locs hp hP hD hS => ?_)
  obtain ⟨rfl, rfl⟩ := hp
  have hP : va_P D vwCl [tl_ob a_this 2 [.ref a_numbers, .ref a_kinds, .ref a_has, .ref a_had, .int (tl_I v_this_objects), .int (tl_I v_this_pairs)], tl_ia (cy 1) a_kinds 100 v_kinds] H := hP
  have hD : va_D A [tl_ob a_this 2 [.ref a_numbers, .ref a_kinds, .ref a_has, .ref a_had, .int (tl_I v_this_objects), .int (tl_I v_this_pairs)], tl_ia (cy 1) a_kinds 100 v_kinds] := hD
  refine W.eq (g2 := F0 m 4 ls [.int (tl_I z1)]) rfl ?_
  refine tr_if_eq (tgt := 16) hx hb hf dX1_kindOf_4 (by decide) (fun hc hf => ?_) (fun hc hf => ?_)
  · refine lv_iconst (v := tl_I (-1 : Int)) hx hb dX1_kindOf_16 rfl ?_
    injection hf with hf
    subst hf
    exact W.iret (v := tl_I (-1 : Int)) hx hb hr (fun t ht hW => tl_fin hAe ⟨rfl, rfl⟩ (hP.sub (ws' := [tl_ob a_this 2 [.ref a_numbers, .ref a_kinds, .ref a_has, .ref a_had, .int (tl_I v_this_objects), .int (tl_I v_this_pairs)], tl_ia (cy 1) a_kinds 100 v_kinds]) [0, 1] rfl) hK (hD.sub (ws' := [tl_ob a_this 2 [.ref a_numbers, .ref a_kinds, .ref a_has, .ref a_had, .int (tl_I v_this_objects), .int (tl_I v_this_pairs)], tl_ia (cy 1) a_kinds 100 v_kinds]) [0, 1] (by decide) rfl) hS ht hW) hS.2.2 dX1_kindOf_17
  · refine lv_aload_n hx hb dX1_kindOf_7 rfl (lv_at hl 0 rfl) ?_
    refine va_get (ci := 2) (v := .ref a_kinds) (C := RX1) (T := TX1) (N := 6) hx hb hts in_X1 hown hK hP 0 rfl rfl 1 (by decide) (hts _ tw_250) (fun _ h9 => h9) rfl dX1_kindOf_8 ?_
    refine lv_iload_n hx hb dX1_kindOf_11 rfl (lv_at hl 1 rfl) ?_
    refine tr_iald hx hb hf hK hP 1 1 rfl rfl (by decide) dX1_kindOf_12 (fun hf => ?_)
    refine lv_goto (tgt := 17) hx hb dX1_kindOf_13 (by decide) ?_
    injection hf with hf
    subst hf
    exact W.iret (v := tl_I (v_kinds p1.toNat)) hx hb hr (fun t ht hW => tl_fin hAe ⟨rfl, rfl⟩ (hP.sub (ws' := [tl_ob a_this 2 [.ref a_numbers, .ref a_kinds, .ref a_has, .ref a_had, .int (tl_I v_this_objects), .int (tl_I v_this_pairs)], tl_ia (cy 1) a_kinds 100 v_kinds]) [0, 1] rfl) hK (hD.sub (ws' := [tl_ob a_this 2 [.ref a_numbers, .ref a_kinds, .ref a_has, .ref a_had, .int (tl_I v_this_objects), .int (tl_I v_this_pairs)], tl_ia (cy 1) a_kinds 100 v_kinds]) [0, 1] (by decide) rfl) hS ht hW) hS.2.2 dX1_kindOf_17
set_option maxHeartbeats 4000000 in
set_option maxRecDepth 100000 in
theorem kt_X1_admit (l : Launch) (D : va_G) (cy : Nat → ClassId) (a_this a_kinds a_numbers a_has a_had : Nat) (v_this_objects : Int) (v_this_pairs : Int) (v_kinds : Nat → Int) (v_numbers : Nat → Int) (p1 : Int) (p2 : Int) (z : Int × (Nat → Int) × (Nat → Int) × Int) (hf : fX1_admit v_this_objects v_this_pairs v_kinds v_numbers p1 p2 = some z) :
    tl_MC l D (tl_tys cy) yX1_admit (tl_w yX1_admit cX1_admit 4 (some .int)) { frames := 1, cells := 0, slots := 0, locals := 22 } [.ref a_this, .int (tl_I p1), .int (tl_I p2)] [tl_ob a_this 2 [.ref a_numbers, .ref a_kinds, .ref a_has, .ref a_had, .int (tl_I v_this_objects), .int (tl_I v_this_pairs)], tl_ia (cy 1) a_kinds 100 v_kinds, tl_ia (cy 1) a_numbers 100 v_numbers] 0 0 (fun v w1 => v = some (.int (tl_I z.1)) ∧ w1 = [tl_ob a_this 2 [.ref a_numbers, .ref a_kinds, .ref a_has, .ref a_had, .int (tl_I z.2.2.2), .int (tl_I v_this_pairs)], tl_ia (cy 1) a_kinds 100 z.2.1, tl_ia (cy 1) a_numbers 100 z.2.2.1]) := by
  refine tl_ofW (cc := cX1_admit) (maxL := 4) (ret := (some .int)) (by decide +kernel) (Nat.le_of_ble_eq_true rfl) ?_
  intro p e s m below meth c hx hb hr hml hts hown hlocks hnm A hAe hA hP hK hD hS ls hl
  have hl : lv_has ls 4 [(0, .ref a_this), (1, .int (tl_I p1)), (2, .int (tl_I p2))] := hl
  unfold fX1_admit at hf
  refine lv_aload_n hx hb dX1_admit_0 rfl (lv_at hl 0 rfl) ?_
  refine lv_iconst (v := tl_I (-1 : Int)) hx hb dX1_admit_1 rfl ?_
  obtain ⟨z1, hz, hf⟩ := tl_bs hf
  refine tl_callV0 (As := [.int (tl_I (-1 : Int))]) (rest := []) (wr := [tl_ia (cy 1) a_kinds 100 v_kinds]) ⟨hx, hb, hml, hown, hts⟩ (kt_X1_slotBearing l D cy a_this a_numbers a_kinds a_has a_had v_this_objects v_this_pairs v_numbers (-1 : Int) z1 hz) (cwV 1 hts tg_X1_35 rfl rfl rfl td_X1_slotBearing ⟨by decide, by decide⟩) hK hP hD hS hA [0, 2] [1] rfl rfl rfl rfl (by decide) 0 2 rfl rfl rfl rfl hl.1 rfl (Nat.le_of_ble_eq_true rfl) dX1_admit_2 ⟨by decide, by decide⟩ (fun v w1 H locs hp hP hD hS => ?_)
  obtain ⟨rfl, rfl⟩ := hp
  have hP : va_P D vwCl [tl_ia (cy 1) a_kinds 100 v_kinds, tl_ob a_this 2 [.ref a_numbers, .ref a_kinds, .ref a_has, .ref a_had, .int (tl_I v_this_objects), .int (tl_I v_this_pairs)], tl_ia (cy 1) a_numbers 100 v_numbers] H := hP
  have hD : va_D A [tl_ia (cy 1) a_kinds 100 v_kinds, tl_ob a_this 2 [.ref a_numbers, .ref a_kinds, .ref a_has, .ref a_had, .int (tl_I v_this_objects), .int (tl_I v_this_pairs)], tl_ia (cy 1) a_numbers 100 v_numbers] := hD
  refine W.eq (g2 := F0 m 5 ls [.int (tl_I z1)]) rfl ?_
  refine lv_istore_n (lv' := [(3, .int (tl_I z1)), (0, .ref a_this), (1, .int (tl_I p1)), (2, .int (tl_I p2))]) hx hb dX1_admit_5 rfl hl (by decide) rfl (fun ls hl => ?_)
  refine lv_iload_n hx hb dX1_admit_6 rfl (lv_at hl 0 rfl) ?_
  refine lv_iconst (v := tl_I (-1 : Int)) hx hb dX1_admit_7 rfl ?_
  refine tr_icmp_eq (tgt := 35) hx hb hf dX1_admit_8 (by decide) (fun hc hf => ?_) (fun hc hf => ?_)
  · refine lv_iload_n hx hb dX1_admit_35 rfl (lv_at hl 0 rfl) ?_
    injection hf with hf
    subst hf
    exact W.iret (v := tl_I z1) hx hb hr (fun t ht hW => tl_fin hAe ⟨rfl, rfl⟩ (hP.sub (ws' := [tl_ob a_this 2 [.ref a_numbers, .ref a_kinds, .ref a_has, .ref a_had, .int (tl_I v_this_objects), .int (tl_I v_this_pairs)], tl_ia (cy 1) a_kinds 100 v_kinds, tl_ia (cy 1) a_numbers 100 v_numbers]) [1, 0, 2] rfl) hK (hD.sub (ws' := [tl_ob a_this 2 [.ref a_numbers, .ref a_kinds, .ref a_has, .ref a_had, .int (tl_I v_this_objects), .int (tl_I v_this_pairs)], tl_ia (cy 1) a_kinds 100 v_kinds, tl_ia (cy 1) a_numbers 100 v_numbers]) [1, 0, 2] (by decide) rfl) hS ht hW) hS.2.2 dX1_admit_36
  · refine lv_aload_n hx hb dX1_admit_11 rfl (lv_at hl 1 rfl) ?_
    refine va_get (ci := 2) (v := .ref a_numbers) (C := RX1) (T := TX1) (N := 6) hx hb hts in_X1 hown hK hP 1 rfl rfl 0 (by decide) (hts _ tw_249) (fun _ h9 => h9) rfl dX1_admit_12 ?_
    refine lv_iload_n hx hb dX1_admit_15 rfl (lv_at hl 0 rfl) ?_
    refine lv_iload_n hx hb dX1_admit_16 rfl (lv_at hl 2 rfl) ?_
    refine tr_iast hx hb hf hK hP hD hS 2 1 rfl rfl (by decide) dX1_admit_17 (fun hf H locs hP hD hS => ?_)
    have hP : va_P D vwCl [tl_ia (cy 1) a_kinds 100 v_kinds, tl_ob a_this 2 [.ref a_numbers, .ref a_kinds, .ref a_has, .ref a_had, .int (tl_I v_this_objects), .int (tl_I v_this_pairs)], tl_ia (cy 1) a_numbers 100 (va_up v_numbers z1.toNat p1)] H := hP
    have hD : va_D A [tl_ia (cy 1) a_kinds 100 v_kinds, tl_ob a_this 2 [.ref a_numbers, .ref a_kinds, .ref a_has, .ref a_had, .int (tl_I v_this_objects), .int (tl_I v_this_pairs)], tl_ia (cy 1) a_numbers 100 (va_up v_numbers z1.toNat p1)] := hD
    refine lv_aload_n hx hb dX1_admit_18 rfl (lv_at hl 1 rfl) ?_
    refine va_get (ci := 2) (v := .ref a_kinds) (C := RX1) (T := TX1) (N := 6) hx hb hts in_X1 hown hK hP 1 rfl rfl 1 (by decide) (hts _ tw_250) (fun _ h9 => h9) rfl dX1_admit_19 ?_
    refine lv_iload_n hx hb dX1_admit_22 rfl (lv_at hl 0 rfl) ?_
    refine lv_iload_n hx hb dX1_admit_23 rfl (lv_at hl 3 rfl) ?_
    refine tr_iast hx hb hf hK hP hD hS 0 1 rfl rfl (by decide) dX1_admit_24 (fun hf H locs hP hD hS => ?_)
    have hP : va_P D vwCl [tl_ia (cy 1) a_kinds 100 (va_up v_kinds z1.toNat p2), tl_ob a_this 2 [.ref a_numbers, .ref a_kinds, .ref a_has, .ref a_had, .int (tl_I v_this_objects), .int (tl_I v_this_pairs)], tl_ia (cy 1) a_numbers 100 (va_up v_numbers z1.toNat p1)] H := hP
    have hD : va_D A [tl_ia (cy 1) a_kinds 100 (va_up v_kinds z1.toNat p2), tl_ob a_this 2 [.ref a_numbers, .ref a_kinds, .ref a_has, .ref a_had, .int (tl_I v_this_objects), .int (tl_I v_this_pairs)], tl_ia (cy 1) a_numbers 100 (va_up v_numbers z1.toNat p1)] := hD
    refine lv_aload_n hx hb dX1_admit_25 rfl (lv_at hl 1 rfl) ?_
    refine lv_dup hx hb dX1_admit_26 rfl ?_
    refine va_get (ci := 2) (v := .int (tl_I v_this_objects)) (C := RX1) (T := TX1) (N := 6) hx hb hts in_X1 hown hK hP 1 rfl rfl 4 (by decide) (hts _ tw_253) (fun _ h9 => h9) rfl dX1_admit_27 ?_
    refine lv_iconst (v := tl_I (1 : Int)) hx hb dX1_admit_30 rfl ?_
    refine tr_iadd hx hb dX1_admit_31 ?_
    refine va_put (ci := 2) (v := .int (tl_I (v_this_objects + (1 : Int)))) (ty := .int) (C := RX1) (T := TX1) (N := 6) hx hb hts in_X1 tyX1 tyX1_ok nmX1 hown hK hP hD hS 1 rfl rfl 4 (by decide) (hts _ tw_253) (fun _ h9 => h9) rfl (by decide +kernel) rfl rfl (Nat.le_of_ble_eq_true rfl) dX1_admit_32 (fun H locs hP hD hS => ?_)
    have hP : va_P D vwCl [tl_ia (cy 1) a_kinds 100 (va_up v_kinds z1.toNat p2), tl_ob a_this 2 [.ref a_numbers, .ref a_kinds, .ref a_has, .ref a_had, .int (tl_I (v_this_objects + (1 : Int))), .int (tl_I v_this_pairs)], tl_ia (cy 1) a_numbers 100 (va_up v_numbers z1.toNat p1)] H := hP
    have hD : va_D A [tl_ia (cy 1) a_kinds 100 (va_up v_kinds z1.toNat p2), tl_ob a_this 2 [.ref a_numbers, .ref a_kinds, .ref a_has, .ref a_had, .int (tl_I (v_this_objects + (1 : Int))), .int (tl_I v_this_pairs)], tl_ia (cy 1) a_numbers 100 (va_up v_numbers z1.toNat p1)] := hD
    refine lv_iload_n hx hb dX1_admit_35 rfl (lv_at hl 0 rfl) ?_
    injection hf with hf
    subst hf
    exact W.iret (v := tl_I z1) hx hb hr (fun t ht hW => tl_fin hAe ⟨rfl, rfl⟩ (hP.sub (ws' := [tl_ob a_this 2 [.ref a_numbers, .ref a_kinds, .ref a_has, .ref a_had, .int (tl_I (v_this_objects + (1 : Int))), .int (tl_I v_this_pairs)], tl_ia (cy 1) a_kinds 100 (va_up v_kinds z1.toNat p2), tl_ia (cy 1) a_numbers 100 (va_up v_numbers z1.toNat p1)]) [1, 0, 2] rfl) hK (hD.sub (ws' := [tl_ob a_this 2 [.ref a_numbers, .ref a_kinds, .ref a_has, .ref a_had, .int (tl_I (v_this_objects + (1 : Int))), .int (tl_I v_this_pairs)], tl_ia (cy 1) a_kinds 100 (va_up v_kinds z1.toNat p2), tl_ia (cy 1) a_numbers 100 (va_up v_numbers z1.toNat p1)]) [1, 0, 2] (by decide) rfl) hS ht hW) hS.2.2 dX1_admit_36
set_option maxHeartbeats 4000000 in
set_option maxRecDepth 100000 in
theorem kt_X1_separate (l : Launch) (D : va_G) (cy : Nat → ClassId) (a_this a_had a_had_lengths a_had_words a_has a_has_lengths a_has_words a_numbers a_kinds : Nat) (v_this_objects : Int) (v_this_pairs : Int) (v_had_lengths : Nat → Int) (v_had_words : Nat → Int64) (v_has_lengths : Nat → Int) (v_has_words : Nat → Int64) (p1 : Int) (p2 : Int) (p3 : Int) (z : Int × (Nat → Int) × (Nat → Int64) × (Nat → Int) × (Nat → Int64) × Int) (hf : fX1_separate v_this_objects v_this_pairs v_had_lengths v_had_words v_has_lengths v_has_words p1 p2 p3 = some z) :
    tl_MC l D (tl_tys cy) yX1_separate (tl_w yX1_separate cX1_separate 4 (some .boolean)) { frames := 2, cells := 0, slots := 0, locals := 55 } [.ref a_this, .int (tl_I p1), .int (tl_I p2), .int (tl_I p3)] [tl_ob a_this 2 [.ref a_numbers, .ref a_kinds, .ref a_has, .ref a_had, .int (tl_I v_this_objects), .int (tl_I v_this_pairs)], tl_ob a_had 4 [.ref a_had_words, .ref a_had_lengths], tl_ia (cy 1) a_had_lengths 1000 v_had_lengths, tl_ja (cy 2) a_had_words 2000 v_had_words, tl_ob a_has 4 [.ref a_has_words, .ref a_has_lengths], tl_ia (cy 1) a_has_lengths 1000 v_has_lengths, tl_ja (cy 2) a_has_words 2000 v_has_words] 0 0 (fun v w1 => v = some (.int (tl_I z.1)) ∧ w1 = [tl_ob a_this 2 [.ref a_numbers, .ref a_kinds, .ref a_has, .ref a_had, .int (tl_I v_this_objects), .int (tl_I z.2.2.2.2.2)], tl_ob a_had 4 [.ref a_had_words, .ref a_had_lengths], tl_ia (cy 1) a_had_lengths 1000 z.2.1, tl_ja (cy 2) a_had_words 2000 z.2.2.1, tl_ob a_has 4 [.ref a_has_words, .ref a_has_lengths], tl_ia (cy 1) a_has_lengths 1000 z.2.2.2.1, tl_ja (cy 2) a_has_words 2000 z.2.2.2.2.1]) := by
  refine tl_ofW (cc := cX1_separate) (maxL := 4) (ret := (some .boolean)) (by decide +kernel) (Nat.le_of_ble_eq_true rfl) ?_
  intro p e s m below meth c hx hb hr hml hts hown hlocks hnm A hAe hA hP hK hD hS ls hl
  have hl : lv_has ls 4 [(0, .ref a_this), (1, .int (tl_I p1)), (2, .int (tl_I p2)), (3, .int (tl_I p3))] := hl
  unfold fX1_separate at hf
  refine lv_aload_n hx hb dX1_separate_0 rfl (lv_at hl 0 rfl) ?_
  refine va_get (ci := 2) (v := .ref a_has) (C := RX1) (T := TX1) (N := 6) hx hb hts in_X1 hown hK hP 0 rfl rfl 2 (by decide) (hts _ tw_251) (fun _ h9 => h9) rfl dX1_separate_1 ?_
  refine lv_iload_n hx hb dX1_separate_4 rfl (lv_at hl 1 rfl) ?_
  refine lv_iload_n hx hb dX1_separate_5 rfl (lv_at hl 2 rfl) ?_
  refine lv_iload_n hx hb dX1_separate_6 rfl (lv_at hl 3 rfl) ?_
  obtain ⟨z1, hz, hf⟩ := tl_bs hf
  refine tl_callV0 (As := [.int (tl_I p1), .int (tl_I p2), .int (tl_I p3)]) (rest := []) (wr := [tl_ob a_this 2 [.ref a_numbers, .ref a_kinds, .ref a_has, .ref a_had, .int (tl_I v_this_objects), .int (tl_I v_this_pairs)], tl_ob a_had 4 [.ref a_had_words, .ref a_had_lengths], tl_ia (cy 1) a_had_lengths 1000 v_had_lengths, tl_ja (cy 2) a_had_words 2000 v_had_words]) ⟨hx, hb, hml, hown, hts⟩ (kt_X3_remove l D cy a_has a_has_lengths a_has_words v_has_lengths v_has_words p1 p2 p3 z1 hz) (cwV 3 hts tg_X1_64 rfl rfl rfl td_X3_remove ⟨by decide, by decide⟩) hK hP hD hS hA [4, 5, 6] [0, 1, 2, 3] rfl rfl rfl rfl (by decide) 4 4 rfl rfl rfl rfl hl.1 rfl (Nat.le_of_ble_eq_true rfl) dX1_separate_7 ⟨by decide, by decide⟩ (fun v w1 H locs hp hP hD hS => ?_)
  obtain ⟨rfl, rfl⟩ := hp
  have hP : va_P D vwCl [tl_ob a_this 2 [.ref a_numbers, .ref a_kinds, .ref a_has, .ref a_had, .int (tl_I v_this_objects), .int (tl_I v_this_pairs)], tl_ob a_had 4 [.ref a_had_words, .ref a_had_lengths], tl_ia (cy 1) a_had_lengths 1000 v_had_lengths, tl_ja (cy 2) a_had_words 2000 v_had_words, tl_ob a_has 4 [.ref a_has_words, .ref a_has_lengths], tl_ia (cy 1) a_has_lengths 1000 z1.2.1, tl_ja (cy 2) a_has_words 2000 z1.2.2] H := hP
  have hD : va_D A [tl_ob a_this 2 [.ref a_numbers, .ref a_kinds, .ref a_has, .ref a_had, .int (tl_I v_this_objects), .int (tl_I v_this_pairs)], tl_ob a_had 4 [.ref a_had_words, .ref a_had_lengths], tl_ia (cy 1) a_had_lengths 1000 v_had_lengths, tl_ja (cy 2) a_had_words 2000 v_had_words, tl_ob a_has 4 [.ref a_has_words, .ref a_has_lengths], tl_ia (cy 1) a_has_lengths 1000 z1.2.1, tl_ja (cy 2) a_has_words 2000 z1.2.2] := hD
  refine W.eq (g2 := F0 m 10 ls [.int (tl_I z1.1)]) rfl ?_
  refine tr_if_ne (tgt := 15) hx hb hf dX1_separate_10 (by decide) (fun hc hf => ?_) (fun hc hf => ?_)
  · refine lv_iconst (v := tl_I (0 : Int)) hx hb dX1_separate_13 rfl ?_
    injection hf with hf
    subst hf
    exact W.zret (v := tl_I (0 : Int)) hx hb hr rfl (fun t ht hW => tl_fin hAe ⟨rfl, rfl⟩ (hP.sub (ws' := [tl_ob a_this 2 [.ref a_numbers, .ref a_kinds, .ref a_has, .ref a_had, .int (tl_I v_this_objects), .int (tl_I v_this_pairs)], tl_ob a_had 4 [.ref a_had_words, .ref a_had_lengths], tl_ia (cy 1) a_had_lengths 1000 v_had_lengths, tl_ja (cy 2) a_had_words 2000 v_had_words, tl_ob a_has 4 [.ref a_has_words, .ref a_has_lengths], tl_ia (cy 1) a_has_lengths 1000 z1.2.1, tl_ja (cy 2) a_has_words 2000 z1.2.2]) [0, 1, 2, 3, 4, 5, 6] rfl) hK (hD.sub (ws' := [tl_ob a_this 2 [.ref a_numbers, .ref a_kinds, .ref a_has, .ref a_had, .int (tl_I v_this_objects), .int (tl_I v_this_pairs)], tl_ob a_had 4 [.ref a_had_words, .ref a_had_lengths], tl_ia (cy 1) a_had_lengths 1000 v_had_lengths, tl_ja (cy 2) a_had_words 2000 v_had_words, tl_ob a_has 4 [.ref a_has_words, .ref a_has_lengths], tl_ia (cy 1) a_has_lengths 1000 z1.2.1, tl_ja (cy 2) a_has_words 2000 z1.2.2]) [0, 1, 2, 3, 4, 5, 6] (by decide) rfl) hS ht hW) hS.2.2 dX1_separate_14
  · refine lv_aload_n hx hb dX1_separate_15 rfl (lv_at hl 0 rfl) ?_
    refine va_get (ci := 2) (v := .ref a_had) (C := RX1) (T := TX1) (N := 6) hx hb hts in_X1 hown hK hP 0 rfl rfl 3 (by decide) (hts _ tw_252) (fun _ h9 => h9) rfl dX1_separate_16 ?_
    refine lv_iload_n hx hb dX1_separate_19 rfl (lv_at hl 1 rfl) ?_
    refine lv_iload_n hx hb dX1_separate_20 rfl (lv_at hl 3 rfl) ?_
    refine lv_iload_n hx hb dX1_separate_21 rfl (lv_at hl 2 rfl) ?_
    obtain ⟨z2, hz, hf⟩ := tl_bs hf
    refine tl_callV0 (As := [.int (tl_I p1), .int (tl_I p3), .int (tl_I p2)]) (rest := []) (wr := [tl_ob a_this 2 [.ref a_numbers, .ref a_kinds, .ref a_has, .ref a_had, .int (tl_I v_this_objects), .int (tl_I v_this_pairs)], tl_ob a_has 4 [.ref a_has_words, .ref a_has_lengths], tl_ia (cy 1) a_has_lengths 1000 z1.2.1, tl_ja (cy 2) a_has_words 2000 z1.2.2]) ⟨hx, hb, hml, hown, hts⟩ (kt_X3_remove l D cy a_had a_had_lengths a_had_words v_had_lengths v_had_words p1 p3 p2 z2 hz) (cwV 3 hts tg_X1_64 rfl rfl rfl td_X3_remove ⟨by decide, by decide⟩) hK hP hD hS hA [1, 2, 3] [0, 4, 5, 6] rfl rfl rfl rfl (by decide) 1 4 rfl rfl rfl rfl hl.1 rfl (Nat.le_of_ble_eq_true rfl) dX1_separate_22 ⟨by decide, by decide⟩ (fun v w1 H locs hp hP hD hS => ?_)
    obtain ⟨rfl, rfl⟩ := hp
    have hP : va_P D vwCl [tl_ob a_this 2 [.ref a_numbers, .ref a_kinds, .ref a_has, .ref a_had, .int (tl_I v_this_objects), .int (tl_I v_this_pairs)], tl_ob a_has 4 [.ref a_has_words, .ref a_has_lengths], tl_ia (cy 1) a_has_lengths 1000 z1.2.1, tl_ja (cy 2) a_has_words 2000 z1.2.2, tl_ob a_had 4 [.ref a_had_words, .ref a_had_lengths], tl_ia (cy 1) a_had_lengths 1000 z2.2.1, tl_ja (cy 2) a_had_words 2000 z2.2.2] H := hP
    have hD : va_D A [tl_ob a_this 2 [.ref a_numbers, .ref a_kinds, .ref a_has, .ref a_had, .int (tl_I v_this_objects), .int (tl_I v_this_pairs)], tl_ob a_has 4 [.ref a_has_words, .ref a_has_lengths], tl_ia (cy 1) a_has_lengths 1000 z1.2.1, tl_ja (cy 2) a_has_words 2000 z1.2.2, tl_ob a_had 4 [.ref a_had_words, .ref a_had_lengths], tl_ia (cy 1) a_had_lengths 1000 z2.2.1, tl_ja (cy 2) a_had_words 2000 z2.2.2] := hD
    refine W.eq (g2 := F0 m 25 ls [.int (tl_I z2.1)]) rfl ?_
    refine lv_pop hx hb dX1_separate_25 rfl ?_
    refine lv_aload_n hx hb dX1_separate_26 rfl (lv_at hl 0 rfl) ?_
    refine lv_dup hx hb dX1_separate_27 rfl ?_
    refine va_get (ci := 2) (v := .int (tl_I v_this_pairs)) (C := RX1) (T := TX1) (N := 6) hx hb hts in_X1 hown hK hP 0 rfl rfl 5 (by decide) (hts _ tw_254) (fun _ h9 => h9) rfl dX1_separate_28 ?_
    refine lv_iconst (v := tl_I (1 : Int)) hx hb dX1_separate_31 rfl ?_
    refine tr_isub hx hb dX1_separate_32 ?_
    refine va_put (ci := 2) (v := .int (tl_I (v_this_pairs - (1 : Int)))) (ty := .int) (C := RX1) (T := TX1) (N := 6) hx hb hts in_X1 tyX1 tyX1_ok nmX1 hown hK hP hD hS 0 rfl rfl 5 (by decide) (hts _ tw_254) (fun _ h9 => h9) rfl (by decide +kernel) rfl rfl (Nat.le_of_ble_eq_true rfl) dX1_separate_33 (fun H locs hP hD hS => ?_)
    have hP : va_P D vwCl [tl_ob a_this 2 [.ref a_numbers, .ref a_kinds, .ref a_has, .ref a_had, .int (tl_I v_this_objects), .int (tl_I (v_this_pairs - (1 : Int)))], tl_ob a_has 4 [.ref a_has_words, .ref a_has_lengths], tl_ia (cy 1) a_has_lengths 1000 z1.2.1, tl_ja (cy 2) a_has_words 2000 z1.2.2, tl_ob a_had 4 [.ref a_had_words, .ref a_had_lengths], tl_ia (cy 1) a_had_lengths 1000 z2.2.1, tl_ja (cy 2) a_had_words 2000 z2.2.2] H := hP
    have hD : va_D A [tl_ob a_this 2 [.ref a_numbers, .ref a_kinds, .ref a_has, .ref a_had, .int (tl_I v_this_objects), .int (tl_I (v_this_pairs - (1 : Int)))], tl_ob a_has 4 [.ref a_has_words, .ref a_has_lengths], tl_ia (cy 1) a_has_lengths 1000 z1.2.1, tl_ja (cy 2) a_has_words 2000 z1.2.2, tl_ob a_had 4 [.ref a_had_words, .ref a_had_lengths], tl_ia (cy 1) a_had_lengths 1000 z2.2.1, tl_ja (cy 2) a_had_words 2000 z2.2.2] := hD
    refine lv_iconst (v := tl_I (1 : Int)) hx hb dX1_separate_36 rfl ?_
    injection hf with hf
    subst hf
    exact W.zret (v := tl_I (1 : Int)) hx hb hr rfl (fun t ht hW => tl_fin hAe ⟨rfl, rfl⟩ (hP.sub (ws' := [tl_ob a_this 2 [.ref a_numbers, .ref a_kinds, .ref a_has, .ref a_had, .int (tl_I v_this_objects), .int (tl_I (v_this_pairs - (1 : Int)))], tl_ob a_had 4 [.ref a_had_words, .ref a_had_lengths], tl_ia (cy 1) a_had_lengths 1000 z2.2.1, tl_ja (cy 2) a_had_words 2000 z2.2.2, tl_ob a_has 4 [.ref a_has_words, .ref a_has_lengths], tl_ia (cy 1) a_has_lengths 1000 z1.2.1, tl_ja (cy 2) a_has_words 2000 z1.2.2]) [0, 4, 5, 6, 1, 2, 3] rfl) hK (hD.sub (ws' := [tl_ob a_this 2 [.ref a_numbers, .ref a_kinds, .ref a_has, .ref a_had, .int (tl_I v_this_objects), .int (tl_I (v_this_pairs - (1 : Int)))], tl_ob a_had 4 [.ref a_had_words, .ref a_had_lengths], tl_ia (cy 1) a_had_lengths 1000 z2.2.1, tl_ja (cy 2) a_had_words 2000 z2.2.2, tl_ob a_has 4 [.ref a_has_words, .ref a_has_lengths], tl_ia (cy 1) a_has_lengths 1000 z1.2.1, tl_ja (cy 2) a_has_words 2000 z1.2.2]) [0, 4, 5, 6, 1, 2, 3] (by decide) rfl) hS ht hW) hS.2.2 dX1_separate_37
set_option maxHeartbeats 4000000 in
set_option maxRecDepth 100000 in
theorem kt_X1_separateAll (l : Launch) (D : va_G) (cy : Nat → ClassId) (a_this a_had a_had_lengths a_had_words a_has a_has_lengths a_has_words a_numbers a_kinds : Nat) (v_this_objects : Int) (v_this_pairs : Int) (v_had_lengths : Nat → Int) (v_had_words : Nat → Int64) (v_has_lengths : Nat → Int) (v_has_words : Nat → Int64) (p1 : Int) (p2 : Int) (z : (Nat → Int) × (Nat → Int64) × (Nat → Int) × (Nat → Int64) × Int) (hf : fX1_separateAll v_this_objects v_this_pairs v_had_lengths v_had_words v_has_lengths v_has_words p1 p2 = some z) :
    tl_MC l D (tl_tys cy) yX1_separateAll (tl_w yX1_separateAll cX1_separateAll 4 none) { frames := 3, cells := 0, slots := 0, locals := 78 } [.ref a_this, .int (tl_I p1), .int (tl_I p2)] [tl_ob a_this 2 [.ref a_numbers, .ref a_kinds, .ref a_has, .ref a_had, .int (tl_I v_this_objects), .int (tl_I v_this_pairs)], tl_ob a_had 4 [.ref a_had_words, .ref a_had_lengths], tl_ia (cy 1) a_had_lengths 1000 v_had_lengths, tl_ja (cy 2) a_had_words 2000 v_had_words, tl_ob a_has 4 [.ref a_has_words, .ref a_has_lengths], tl_ia (cy 1) a_has_lengths 1000 v_has_lengths, tl_ja (cy 2) a_has_words 2000 v_has_words] 0 0 (fun v w1 => v = none ∧ w1 = [tl_ob a_this 2 [.ref a_numbers, .ref a_kinds, .ref a_has, .ref a_had, .int (tl_I v_this_objects), .int (tl_I z.2.2.2.2)], tl_ob a_had 4 [.ref a_had_words, .ref a_had_lengths], tl_ia (cy 1) a_had_lengths 1000 z.1, tl_ja (cy 2) a_had_words 2000 z.2.1, tl_ob a_has 4 [.ref a_has_words, .ref a_has_lengths], tl_ia (cy 1) a_has_lengths 1000 z.2.2.1, tl_ja (cy 2) a_has_words 2000 z.2.2.2.1]) := by
  refine tl_ofW (cc := cX1_separateAll) (maxL := 4) (ret := none) (by decide +kernel) (Nat.le_of_ble_eq_true rfl) ?_
  intro p e s m below meth c hx hb hr hml hts hown hlocks hnm A hAe hA hP hK hD hS ls hl
  have hl : lv_has ls 4 [(0, .ref a_this), (1, .int (tl_I p1)), (2, .int (tl_I p2))] := hl
  unfold fX1_separateAll at hf
  refine lv_aload_n hx hb dX1_separateAll_0 rfl (lv_at hl 0 rfl) ?_
  refine va_get (ci := 2) (v := .ref a_has) (C := RX1) (T := TX1) (N := 6) hx hb hts in_X1 hown hK hP 0 rfl rfl 2 (by decide) (hts _ tw_251) (fun _ h9 => h9) rfl dX1_separateAll_1 ?_
  refine lv_iload_n hx hb dX1_separateAll_4 rfl (lv_at hl 1 rfl) ?_
  refine lv_iload_n hx hb dX1_separateAll_5 rfl (lv_at hl 2 rfl) ?_
  obtain ⟨z1, hz, hf⟩ := tl_bs hf
  refine tl_callV0 (As := [.int (tl_I p1), .int (tl_I p2)]) (rest := []) (wr := [tl_ob a_this 2 [.ref a_numbers, .ref a_kinds, .ref a_has, .ref a_had, .int (tl_I v_this_objects), .int (tl_I v_this_pairs)], tl_ob a_had 4 [.ref a_had_words, .ref a_had_lengths], tl_ia (cy 1) a_had_lengths 1000 v_had_lengths, tl_ja (cy 2) a_had_words 2000 v_had_words, tl_ja (cy 2) a_has_words 2000 v_has_words]) ⟨hx, hb, hml, hown, hts⟩ (kt_X3_lengthOf l D cy a_has a_has_lengths a_has_words v_has_lengths p1 p2 z1 hz) (cwV 2 hts tg_X1_77 rfl rfl rfl td_X3_lengthOf ⟨by decide, by decide⟩) hK hP hD hS hA [4, 5] [0, 1, 2, 3, 6] rfl rfl rfl rfl (by decide) 4 4 rfl rfl rfl rfl hl.1 rfl (Nat.le_of_ble_eq_true rfl) dX1_separateAll_6 ⟨by decide, by decide⟩ (fun v w1 H locs hp hP hD hS => ?_)
  obtain ⟨rfl, rfl⟩ := hp
  have hP : va_P D vwCl [tl_ob a_this 2 [.ref a_numbers, .ref a_kinds, .ref a_has, .ref a_had, .int (tl_I v_this_objects), .int (tl_I v_this_pairs)], tl_ob a_had 4 [.ref a_had_words, .ref a_had_lengths], tl_ia (cy 1) a_had_lengths 1000 v_had_lengths, tl_ja (cy 2) a_had_words 2000 v_had_words, tl_ja (cy 2) a_has_words 2000 v_has_words, tl_ob a_has 4 [.ref a_has_words, .ref a_has_lengths], tl_ia (cy 1) a_has_lengths 1000 v_has_lengths] H := hP
  have hD : va_D A [tl_ob a_this 2 [.ref a_numbers, .ref a_kinds, .ref a_has, .ref a_had, .int (tl_I v_this_objects), .int (tl_I v_this_pairs)], tl_ob a_had 4 [.ref a_had_words, .ref a_had_lengths], tl_ia (cy 1) a_had_lengths 1000 v_had_lengths, tl_ja (cy 2) a_had_words 2000 v_had_words, tl_ja (cy 2) a_has_words 2000 v_has_words, tl_ob a_has 4 [.ref a_has_words, .ref a_has_lengths], tl_ia (cy 1) a_has_lengths 1000 v_has_lengths] := hD
  refine W.eq (g2 := F0 m 9 ls [.int (tl_I z1)]) rfl ?_
  refine lv_iconst (v := tl_I (1 : Int)) hx hb dX1_separateAll_9 rfl ?_
  refine tr_isub hx hb dX1_separateAll_10 ?_
  refine lv_istore_n (lv' := [(3, .int (tl_I (z1 - (1 : Int)))), (0, .ref a_this), (1, .int (tl_I p1)), (2, .int (tl_I p2))]) hx hb dX1_separateAll_11 rfl hl (by decide) rfl (fun ls hl => ?_)
  have lp1 : ∀ (n : Nat) (x2 : Int) (x3 : Int) (x4 : Nat → Int) (x5 : Nat → Int64) (x6 : Nat → Int) (x7 : Nat → Int64) (out : Int × (Nat → Int) × (Nat → Int64) × (Nat → Int) × (Nat → Int64)), fX1_separateAll_L1 v_this_objects p1 p2 n x2 x3 x4 x5 x6 x7 = some out → ∀ (H : Heap) (locs : List Loc) (ls : Array Slot), va_P D vwCl [tl_ob a_this 2 [.ref a_numbers, .ref a_kinds, .ref a_has, .ref a_had, .int (tl_I v_this_objects), .int (tl_I x3)], tl_ob a_had 4 [.ref a_had_words, .ref a_had_lengths], tl_ia (cy 1) a_had_lengths 1000 x4, tl_ja (cy 2) a_had_words 2000 x5, tl_ob a_has 4 [.ref a_has_words, .ref a_has_lengths], tl_ia (cy 1) a_has_lengths 1000 x6, tl_ja (cy 2) a_has_words 2000 x7] H → va_D A [tl_ob a_this 2 [.ref a_numbers, .ref a_kinds, .ref a_has, .ref a_had, .int (tl_I v_this_objects), .int (tl_I x3)], tl_ob a_had 4 [.ref a_had_words, .ref a_had_lengths], tl_ia (cy 1) a_had_lengths 1000 x4, tl_ja (cy 2) a_had_words 2000 x5, tl_ob a_has 4 [.ref a_has_words, .ref a_has_lengths], tl_ia (cy 1) a_has_lengths 1000 x6, tl_ja (cy 2) a_has_words 2000 x7] → va_S A s.heap H locs → lv_has ls 4 [(3, .int (tl_I x2)), (0, .ref a_this), (1, .int (tl_I p1)), (2, .int (tl_I p2))] → (∀ (x3 : Int) (x4 : Nat → Int) (x5 : Nat → Int64) (x6 : Nat → Int) (x7 : Nat → Int64), out = (x3, x4, x5, x6, x7) → ∀ (H : Heap) (locs : List Loc) (ls : Array Slot), va_P D vwCl [tl_ob a_this 2 [.ref a_numbers, .ref a_kinds, .ref a_has, .ref a_had, .int (tl_I v_this_objects), .int (tl_I x3)], tl_ob a_had 4 [.ref a_had_words, .ref a_had_lengths], tl_ia (cy 1) a_had_lengths 1000 x4, tl_ja (cy 2) a_had_words 2000 x5, tl_ob a_has 4 [.ref a_has_words, .ref a_has_lengths], tl_ia (cy 1) a_has_lengths 1000 x6, tl_ja (cy 2) a_has_words 2000 x7] H → va_D A [tl_ob a_this 2 [.ref a_numbers, .ref a_kinds, .ref a_has, .ref a_had, .int (tl_I v_this_objects), .int (tl_I x3)], tl_ob a_had 4 [.ref a_had_words, .ref a_had_lengths], tl_ia (cy 1) a_had_lengths 1000 x4, tl_ja (cy 2) a_had_words 2000 x5, tl_ob a_has 4 [.ref a_has_words, .ref a_has_lengths], tl_ia (cy 1) a_has_lengths 1000 x6, tl_ja (cy 2) a_has_words 2000 x7] → va_S A s.heap H locs → lv_has ls 4 [(0, .ref a_this), (1, .int (tl_I p1)), (2, .int (tl_I p2))] → W p l e { frames := 3, cells := 0, slots := 0, locals := 78 } s m ([.ref a_this, .int (tl_I p1), .int (tl_I p2)] : List Value).toArray below meth c H locs 0 0 (MQ below (tl_Q D (tl_tys cy) [tl_ob a_this 2 [.ref a_numbers, .ref a_kinds, .ref a_has, .ref a_had, .int (tl_I v_this_objects), .int (tl_I v_this_pairs)], tl_ob a_had 4 [.ref a_had_words, .ref a_had_lengths], tl_ia (cy 1) a_had_lengths 1000 v_had_lengths, tl_ja (cy 2) a_had_words 2000 v_had_words, tl_ob a_has 4 [.ref a_has_words, .ref a_has_lengths], tl_ia (cy 1) a_has_lengths 1000 v_has_lengths, tl_ja (cy 2) a_has_words 2000 v_has_words] s.heap.size (fun v w1 => v = none ∧ w1 = [tl_ob a_this 2 [.ref a_numbers, .ref a_kinds, .ref a_has, .ref a_had, .int (tl_I v_this_objects), .int (tl_I z.2.2.2.2)], tl_ob a_had 4 [.ref a_had_words, .ref a_had_lengths], tl_ia (cy 1) a_had_lengths 1000 z.1, tl_ja (cy 2) a_had_words 2000 z.2.1, tl_ob a_has 4 [.ref a_has_words, .ref a_has_lengths], tl_ia (cy 1) a_has_lengths 1000 z.2.2.1, tl_ja (cy 2) a_has_words 2000 z.2.2.2.1])) ([.ref a_this, .int (tl_I p1), .int (tl_I p2)] : List Value).toArray s 0 0 A) (F0 m 39 ls [])) → W p l e { frames := 3, cells := 0, slots := 0, locals := 78 } s m ([.ref a_this, .int (tl_I p1), .int (tl_I p2)] : List Value).toArray below meth c H locs 0 0 (MQ below (tl_Q D (tl_tys cy) [tl_ob a_this 2 [.ref a_numbers, .ref a_kinds, .ref a_has, .ref a_had, .int (tl_I v_this_objects), .int (tl_I v_this_pairs)], tl_ob a_had 4 [.ref a_had_words, .ref a_had_lengths], tl_ia (cy 1) a_had_lengths 1000 v_had_lengths, tl_ja (cy 2) a_had_words 2000 v_had_words, tl_ob a_has 4 [.ref a_has_words, .ref a_has_lengths], tl_ia (cy 1) a_has_lengths 1000 v_has_lengths, tl_ja (cy 2) a_has_words 2000 v_has_words] s.heap.size (fun v w1 => v = none ∧ w1 = [tl_ob a_this 2 [.ref a_numbers, .ref a_kinds, .ref a_has, .ref a_had, .int (tl_I v_this_objects), .int (tl_I z.2.2.2.2)], tl_ob a_had 4 [.ref a_had_words, .ref a_had_lengths], tl_ia (cy 1) a_had_lengths 1000 z.1, tl_ja (cy 2) a_had_words 2000 z.2.1, tl_ob a_has 4 [.ref a_has_words, .ref a_has_lengths], tl_ia (cy 1) a_has_lengths 1000 z.2.2.1, tl_ja (cy 2) a_has_words 2000 z.2.2.2.1])) ([.ref a_this, .int (tl_I p1), .int (tl_I p2)] : List Value).toArray s 0 0 A) (F0 m 12 ls []) := by
    intro n
    induction n with
    | zero =>
      intro x2 x3 x4 x5 x6 x7 out hf
      cases hf
    | succ n ih =>
      intro x2 x3 x4 x5 x6 x7 out hf H locs ls hP hD hS hl hE
      rw [fX1_separateAll_L1] at hf
      refine lv_iload_n hx hb dX1_separateAll_12 rfl (lv_at hl 0 rfl) ?_
      refine tr_if_lt (tgt := 39) hx hb hf dX1_separateAll_13 (by decide) (fun hc hf => ?_) (fun hc hf => ?_)
      · injection hf with hf
        subst hf
        exact hE x3 x4 x5 x6 x7 rfl _ _ _ (hP.sub (ws' := [tl_ob a_this 2 [.ref a_numbers, .ref a_kinds, .ref a_has, .ref a_had, .int (tl_I v_this_objects), .int (tl_I x3)], tl_ob a_had 4 [.ref a_had_words, .ref a_had_lengths], tl_ia (cy 1) a_had_lengths 1000 x4, tl_ja (cy 2) a_had_words 2000 x5, tl_ob a_has 4 [.ref a_has_words, .ref a_has_lengths], tl_ia (cy 1) a_has_lengths 1000 x6, tl_ja (cy 2) a_has_words 2000 x7]) [0, 1, 2, 3, 4, 5, 6] rfl) (hD.sub (ws' := [tl_ob a_this 2 [.ref a_numbers, .ref a_kinds, .ref a_has, .ref a_had, .int (tl_I v_this_objects), .int (tl_I x3)], tl_ob a_had 4 [.ref a_had_words, .ref a_had_lengths], tl_ia (cy 1) a_had_lengths 1000 x4, tl_ja (cy 2) a_had_words 2000 x5, tl_ob a_has 4 [.ref a_has_words, .ref a_has_lengths], tl_ia (cy 1) a_has_lengths 1000 x6, tl_ja (cy 2) a_has_words 2000 x7]) [0, 1, 2, 3, 4, 5, 6] (by decide) rfl) hS (lv_sub hl [1, 2, 3] rfl)
      · refine lv_aload_n hx hb dX1_separateAll_16 rfl (lv_at hl 1 rfl) ?_
        refine lv_iload_n hx hb dX1_separateAll_17 rfl (lv_at hl 2 rfl) ?_
        refine lv_iload_n hx hb dX1_separateAll_18 rfl (lv_at hl 3 rfl) ?_
        refine lv_aload_n hx hb dX1_separateAll_19 rfl (lv_at hl 1 rfl) ?_
        refine va_get (ci := 2) (v := .ref a_has) (C := RX1) (T := TX1) (N := 6) hx hb hts in_X1 hown hK hP 0 rfl rfl 2 (by decide) (hts _ tw_251) (fun _ h9 => h9) rfl dX1_separateAll_20 ?_
        refine lv_iload_n hx hb dX1_separateAll_23 rfl (lv_at hl 2 rfl) ?_
        refine lv_iload_n hx hb dX1_separateAll_24 rfl (lv_at hl 3 rfl) ?_
        refine lv_iload_n hx hb dX1_separateAll_25 rfl (lv_at hl 0 rfl) ?_
        obtain ⟨z8, hz, hf⟩ := tl_bs hf
        refine tl_callV0 (As := [.int (tl_I p1), .int (tl_I p2), .int (tl_I x2)]) (rest := [.int (tl_I p2), .int (tl_I p1), .ref a_this]) (wr := [tl_ob a_this 2 [.ref a_numbers, .ref a_kinds, .ref a_has, .ref a_had, .int (tl_I v_this_objects), .int (tl_I x3)], tl_ob a_had 4 [.ref a_had_words, .ref a_had_lengths], tl_ia (cy 1) a_had_lengths 1000 x4, tl_ja (cy 2) a_had_words 2000 x5]) ⟨hx, hb, hml, hown, hts⟩ (kt_X3_get l D cy a_has a_has_lengths a_has_words x6 x7 p1 p2 x2 z8 hz) (cwV 3 hts tg_X1_81 rfl rfl rfl td_X3_get ⟨by decide, by decide⟩) hK hP hD hS hA [4, 5, 6] [0, 1, 2, 3] rfl rfl rfl rfl (by decide) 4 4 rfl rfl rfl rfl hl.1 rfl (Nat.le_of_ble_eq_true rfl) dX1_separateAll_26 ⟨by decide, by decide⟩ (fun v w1 H locs hp hP hD hS => ?_)
        obtain ⟨rfl, rfl⟩ := hp
        have hP : va_P D vwCl [tl_ob a_this 2 [.ref a_numbers, .ref a_kinds, .ref a_has, .ref a_had, .int (tl_I v_this_objects), .int (tl_I x3)], tl_ob a_had 4 [.ref a_had_words, .ref a_had_lengths], tl_ia (cy 1) a_had_lengths 1000 x4, tl_ja (cy 2) a_had_words 2000 x5, tl_ob a_has 4 [.ref a_has_words, .ref a_has_lengths], tl_ia (cy 1) a_has_lengths 1000 x6, tl_ja (cy 2) a_has_words 2000 x7] H := hP
        have hD : va_D A [tl_ob a_this 2 [.ref a_numbers, .ref a_kinds, .ref a_has, .ref a_had, .int (tl_I v_this_objects), .int (tl_I x3)], tl_ob a_had 4 [.ref a_had_words, .ref a_had_lengths], tl_ia (cy 1) a_had_lengths 1000 x4, tl_ja (cy 2) a_had_words 2000 x5, tl_ob a_has 4 [.ref a_has_words, .ref a_has_lengths], tl_ia (cy 1) a_has_lengths 1000 x6, tl_ja (cy 2) a_has_words 2000 x7] := hD
        refine W.eq (g2 := F0 m 29 ls [.int (tl_I z8), .int (tl_I p2), .int (tl_I p1), .ref a_this]) rfl ?_
        obtain ⟨z9, hz, hf⟩ := tl_bs hf
        refine tl_callV0 (As := [.int (tl_I p1), .int (tl_I p2), .int (tl_I z8)]) (rest := []) (wr := []) ⟨hx, hb, hml, hown, hts⟩ (kt_X1_separate l D cy a_this a_had a_had_lengths a_had_words a_has a_has_lengths a_has_words a_numbers a_kinds v_this_objects x3 x4 x5 x6 x7 p1 p2 z8 z9 hz) (cwV 3 hts tg_X1_85 rfl rfl rfl td_X1_separate ⟨by decide, by decide⟩) hK hP hD hS hA [0, 1, 2, 3, 4, 5, 6] [] rfl rfl rfl rfl (by decide) 0 2 rfl rfl rfl rfl hl.1 rfl (Nat.le_of_ble_eq_true rfl) dX1_separateAll_29 ⟨by decide, by decide⟩ (fun v w1 H locs hp hP hD hS => ?_)
        obtain ⟨rfl, rfl⟩ := hp
        have hP : va_P D vwCl [tl_ob a_this 2 [.ref a_numbers, .ref a_kinds, .ref a_has, .ref a_had, .int (tl_I v_this_objects), .int (tl_I z9.2.2.2.2.2)], tl_ob a_had 4 [.ref a_had_words, .ref a_had_lengths], tl_ia (cy 1) a_had_lengths 1000 z9.2.1, tl_ja (cy 2) a_had_words 2000 z9.2.2.1, tl_ob a_has 4 [.ref a_has_words, .ref a_has_lengths], tl_ia (cy 1) a_has_lengths 1000 z9.2.2.2.1, tl_ja (cy 2) a_has_words 2000 z9.2.2.2.2.1] H := hP
        have hD : va_D A [tl_ob a_this 2 [.ref a_numbers, .ref a_kinds, .ref a_has, .ref a_had, .int (tl_I v_this_objects), .int (tl_I z9.2.2.2.2.2)], tl_ob a_had 4 [.ref a_had_words, .ref a_had_lengths], tl_ia (cy 1) a_had_lengths 1000 z9.2.1, tl_ja (cy 2) a_had_words 2000 z9.2.2.1, tl_ob a_has 4 [.ref a_has_words, .ref a_has_lengths], tl_ia (cy 1) a_has_lengths 1000 z9.2.2.2.1, tl_ja (cy 2) a_has_words 2000 z9.2.2.2.2.1] := hD
        refine W.eq (g2 := F0 m 32 ls [.int (tl_I z9.1)]) rfl ?_
        refine lv_pop hx hb dX1_separateAll_32 rfl ?_
        refine lv_iinc (v := tl_I (x2 + (-1))) (lv' := [(3, .int (tl_I (x2 + (-1)))), (0, .ref a_this), (1, .int (tl_I p1)), (2, .int (tl_I p2))]) hx hb dX1_separateAll_33 hl (k := 0) rfl (tl_add _ _) (by decide) rfl (fun ls hl => ?_)
        refine lv_goto (tgt := 12) hx hb dX1_separateAll_36 (by decide) ?_
        exact ih (x2 + (-1)) z9.2.2.2.2.2 z9.2.1 z9.2.2.1 z9.2.2.2.1 z9.2.2.2.2.1 out hf _ _ _ (hP.sub (ws' := [tl_ob a_this 2 [.ref a_numbers, .ref a_kinds, .ref a_has, .ref a_had, .int (tl_I v_this_objects), .int (tl_I z9.2.2.2.2.2)], tl_ob a_had 4 [.ref a_had_words, .ref a_had_lengths], tl_ia (cy 1) a_had_lengths 1000 z9.2.1, tl_ja (cy 2) a_had_words 2000 z9.2.2.1, tl_ob a_has 4 [.ref a_has_words, .ref a_has_lengths], tl_ia (cy 1) a_has_lengths 1000 z9.2.2.2.1, tl_ja (cy 2) a_has_words 2000 z9.2.2.2.2.1]) [0, 1, 2, 3, 4, 5, 6] rfl) (hD.sub (ws' := [tl_ob a_this 2 [.ref a_numbers, .ref a_kinds, .ref a_has, .ref a_had, .int (tl_I v_this_objects), .int (tl_I z9.2.2.2.2.2)], tl_ob a_had 4 [.ref a_had_words, .ref a_had_lengths], tl_ia (cy 1) a_had_lengths 1000 z9.2.1, tl_ja (cy 2) a_had_words 2000 z9.2.2.1, tl_ob a_has 4 [.ref a_has_words, .ref a_has_lengths], tl_ia (cy 1) a_has_lengths 1000 z9.2.2.2.1, tl_ja (cy 2) a_has_words 2000 z9.2.2.2.2.1]) [0, 1, 2, 3, 4, 5, 6] (by decide) rfl) hS (lv_sub hl [0, 1, 2, 3] rfl) hE
  obtain ⟨o, hz, hf⟩ := tl_bs hf
  refine lp1 tl_N (z1 - (1 : Int)) v_this_pairs v_had_lengths v_had_words v_has_lengths v_has_words o hz _ _ _ (hP.sub (ws' := [tl_ob a_this 2 [.ref a_numbers, .ref a_kinds, .ref a_has, .ref a_had, .int (tl_I v_this_objects), .int (tl_I v_this_pairs)], tl_ob a_had 4 [.ref a_had_words, .ref a_had_lengths], tl_ia (cy 1) a_had_lengths 1000 v_had_lengths, tl_ja (cy 2) a_had_words 2000 v_had_words, tl_ob a_has 4 [.ref a_has_words, .ref a_has_lengths], tl_ia (cy 1) a_has_lengths 1000 v_has_lengths, tl_ja (cy 2) a_has_words 2000 v_has_words]) [0, 1, 2, 3, 5, 6, 4] rfl) (hD.sub (ws' := [tl_ob a_this 2 [.ref a_numbers, .ref a_kinds, .ref a_has, .ref a_had, .int (tl_I v_this_objects), .int (tl_I v_this_pairs)], tl_ob a_had 4 [.ref a_had_words, .ref a_had_lengths], tl_ia (cy 1) a_had_lengths 1000 v_had_lengths, tl_ja (cy 2) a_had_words 2000 v_had_words, tl_ob a_has 4 [.ref a_has_words, .ref a_has_lengths], tl_ia (cy 1) a_has_lengths 1000 v_has_lengths, tl_ja (cy 2) a_has_words 2000 v_has_words]) [0, 1, 2, 3, 5, 6, 4] (by decide) rfl) hS (lv_sub hl [0, 1, 2, 3] rfl) ?_
  intro x3 x4 x5 x6 x7 ho H locs ls hP hD hS hl
  subst ho
  try dsimp only at hf
  refine lv_aload_n hx hb dX1_separateAll_39 rfl (lv_at hl 0 rfl) ?_
  refine va_get (ci := 2) (v := .ref a_had) (C := RX1) (T := TX1) (N := 6) hx hb hts in_X1 hown hK hP 0 rfl rfl 3 (by decide) (hts _ tw_252) (fun _ h9 => h9) rfl dX1_separateAll_40 ?_
  refine lv_iload_n hx hb dX1_separateAll_43 rfl (lv_at hl 1 rfl) ?_
  refine lv_iload_n hx hb dX1_separateAll_44 rfl (lv_at hl 2 rfl) ?_
  obtain ⟨z11, hz, hf⟩ := tl_bs hf
  refine tl_callV0 (As := [.int (tl_I p1), .int (tl_I p2)]) (rest := []) (wr := [tl_ob a_this 2 [.ref a_numbers, .ref a_kinds, .ref a_has, .ref a_had, .int (tl_I v_this_objects), .int (tl_I x3)], tl_ja (cy 2) a_had_words 2000 x5, tl_ob a_has 4 [.ref a_has_words, .ref a_has_lengths], tl_ia (cy 1) a_has_lengths 1000 x6, tl_ja (cy 2) a_has_words 2000 x7]) ⟨hx, hb, hml, hown, hts⟩ (kt_X3_lengthOf l D cy a_had a_had_lengths a_had_words x4 p1 p2 z11 hz) (cwV 2 hts tg_X1_77 rfl rfl rfl td_X3_lengthOf ⟨by decide, by decide⟩) hK hP hD hS hA [1, 2] [0, 3, 4, 5, 6] rfl rfl rfl rfl (by decide) 1 4 rfl rfl rfl rfl hl.1 rfl (Nat.le_of_ble_eq_true rfl) dX1_separateAll_45 ⟨by decide, by decide⟩ (fun v w1 H locs hp hP hD hS => ?_)
  obtain ⟨rfl, rfl⟩ := hp
  have hP : va_P D vwCl [tl_ob a_this 2 [.ref a_numbers, .ref a_kinds, .ref a_has, .ref a_had, .int (tl_I v_this_objects), .int (tl_I x3)], tl_ja (cy 2) a_had_words 2000 x5, tl_ob a_has 4 [.ref a_has_words, .ref a_has_lengths], tl_ia (cy 1) a_has_lengths 1000 x6, tl_ja (cy 2) a_has_words 2000 x7, tl_ob a_had 4 [.ref a_had_words, .ref a_had_lengths], tl_ia (cy 1) a_had_lengths 1000 x4] H := hP
  have hD : va_D A [tl_ob a_this 2 [.ref a_numbers, .ref a_kinds, .ref a_has, .ref a_had, .int (tl_I v_this_objects), .int (tl_I x3)], tl_ja (cy 2) a_had_words 2000 x5, tl_ob a_has 4 [.ref a_has_words, .ref a_has_lengths], tl_ia (cy 1) a_has_lengths 1000 x6, tl_ja (cy 2) a_has_words 2000 x7, tl_ob a_had 4 [.ref a_had_words, .ref a_had_lengths], tl_ia (cy 1) a_had_lengths 1000 x4] := hD
  refine W.eq (g2 := F0 m 48 ls [.int (tl_I z11)]) rfl ?_
  refine lv_iconst (v := tl_I (1 : Int)) hx hb dX1_separateAll_48 rfl ?_
  refine tr_isub hx hb dX1_separateAll_49 ?_
  refine lv_istore_n (lv' := [(3, .int (tl_I (z11 - (1 : Int)))), (0, .ref a_this), (1, .int (tl_I p1)), (2, .int (tl_I p2))]) hx hb dX1_separateAll_50 rfl hl (by decide) rfl (fun ls hl => ?_)
  have lp2 : ∀ (n : Nat) (x12 : Int) (x13 : Int) (x14 : Nat → Int) (x15 : Nat → Int64) (x16 : Nat → Int) (x17 : Nat → Int64) (out : Int × (Nat → Int) × (Nat → Int64) × (Nat → Int) × (Nat → Int64)), fX1_separateAll_L2 v_this_objects p1 p2 n x12 x13 x14 x15 x16 x17 = some out → ∀ (H : Heap) (locs : List Loc) (ls : Array Slot), va_P D vwCl [tl_ob a_this 2 [.ref a_numbers, .ref a_kinds, .ref a_has, .ref a_had, .int (tl_I v_this_objects), .int (tl_I x13)], tl_ob a_had 4 [.ref a_had_words, .ref a_had_lengths], tl_ia (cy 1) a_had_lengths 1000 x14, tl_ja (cy 2) a_had_words 2000 x15, tl_ob a_has 4 [.ref a_has_words, .ref a_has_lengths], tl_ia (cy 1) a_has_lengths 1000 x16, tl_ja (cy 2) a_has_words 2000 x17] H → va_D A [tl_ob a_this 2 [.ref a_numbers, .ref a_kinds, .ref a_has, .ref a_had, .int (tl_I v_this_objects), .int (tl_I x13)], tl_ob a_had 4 [.ref a_had_words, .ref a_had_lengths], tl_ia (cy 1) a_had_lengths 1000 x14, tl_ja (cy 2) a_had_words 2000 x15, tl_ob a_has 4 [.ref a_has_words, .ref a_has_lengths], tl_ia (cy 1) a_has_lengths 1000 x16, tl_ja (cy 2) a_has_words 2000 x17] → va_S A s.heap H locs → lv_has ls 4 [(3, .int (tl_I x12)), (0, .ref a_this), (1, .int (tl_I p1)), (2, .int (tl_I p2))] → (∀ (x13 : Int) (x14 : Nat → Int) (x15 : Nat → Int64) (x16 : Nat → Int) (x17 : Nat → Int64), out = (x13, x14, x15, x16, x17) → ∀ (H : Heap) (locs : List Loc) (ls : Array Slot), va_P D vwCl [tl_ob a_this 2 [.ref a_numbers, .ref a_kinds, .ref a_has, .ref a_had, .int (tl_I v_this_objects), .int (tl_I x13)], tl_ob a_had 4 [.ref a_had_words, .ref a_had_lengths], tl_ia (cy 1) a_had_lengths 1000 x14, tl_ja (cy 2) a_had_words 2000 x15, tl_ob a_has 4 [.ref a_has_words, .ref a_has_lengths], tl_ia (cy 1) a_has_lengths 1000 x16, tl_ja (cy 2) a_has_words 2000 x17] H → va_D A [tl_ob a_this 2 [.ref a_numbers, .ref a_kinds, .ref a_has, .ref a_had, .int (tl_I v_this_objects), .int (tl_I x13)], tl_ob a_had 4 [.ref a_had_words, .ref a_had_lengths], tl_ia (cy 1) a_had_lengths 1000 x14, tl_ja (cy 2) a_had_words 2000 x15, tl_ob a_has 4 [.ref a_has_words, .ref a_has_lengths], tl_ia (cy 1) a_has_lengths 1000 x16, tl_ja (cy 2) a_has_words 2000 x17] → va_S A s.heap H locs → lv_has ls 4 [] → W p l e { frames := 3, cells := 0, slots := 0, locals := 78 } s m ([.ref a_this, .int (tl_I p1), .int (tl_I p2)] : List Value).toArray below meth c H locs 0 0 (MQ below (tl_Q D (tl_tys cy) [tl_ob a_this 2 [.ref a_numbers, .ref a_kinds, .ref a_has, .ref a_had, .int (tl_I v_this_objects), .int (tl_I v_this_pairs)], tl_ob a_had 4 [.ref a_had_words, .ref a_had_lengths], tl_ia (cy 1) a_had_lengths 1000 v_had_lengths, tl_ja (cy 2) a_had_words 2000 v_had_words, tl_ob a_has 4 [.ref a_has_words, .ref a_has_lengths], tl_ia (cy 1) a_has_lengths 1000 v_has_lengths, tl_ja (cy 2) a_has_words 2000 v_has_words] s.heap.size (fun v w1 => v = none ∧ w1 = [tl_ob a_this 2 [.ref a_numbers, .ref a_kinds, .ref a_has, .ref a_had, .int (tl_I v_this_objects), .int (tl_I z.2.2.2.2)], tl_ob a_had 4 [.ref a_had_words, .ref a_had_lengths], tl_ia (cy 1) a_had_lengths 1000 z.1, tl_ja (cy 2) a_had_words 2000 z.2.1, tl_ob a_has 4 [.ref a_has_words, .ref a_has_lengths], tl_ia (cy 1) a_has_lengths 1000 z.2.2.1, tl_ja (cy 2) a_has_words 2000 z.2.2.2.1])) ([.ref a_this, .int (tl_I p1), .int (tl_I p2)] : List Value).toArray s 0 0 A) (F0 m 78 ls [])) → W p l e { frames := 3, cells := 0, slots := 0, locals := 78 } s m ([.ref a_this, .int (tl_I p1), .int (tl_I p2)] : List Value).toArray below meth c H locs 0 0 (MQ below (tl_Q D (tl_tys cy) [tl_ob a_this 2 [.ref a_numbers, .ref a_kinds, .ref a_has, .ref a_had, .int (tl_I v_this_objects), .int (tl_I v_this_pairs)], tl_ob a_had 4 [.ref a_had_words, .ref a_had_lengths], tl_ia (cy 1) a_had_lengths 1000 v_had_lengths, tl_ja (cy 2) a_had_words 2000 v_had_words, tl_ob a_has 4 [.ref a_has_words, .ref a_has_lengths], tl_ia (cy 1) a_has_lengths 1000 v_has_lengths, tl_ja (cy 2) a_has_words 2000 v_has_words] s.heap.size (fun v w1 => v = none ∧ w1 = [tl_ob a_this 2 [.ref a_numbers, .ref a_kinds, .ref a_has, .ref a_had, .int (tl_I v_this_objects), .int (tl_I z.2.2.2.2)], tl_ob a_had 4 [.ref a_had_words, .ref a_had_lengths], tl_ia (cy 1) a_had_lengths 1000 z.1, tl_ja (cy 2) a_had_words 2000 z.2.1, tl_ob a_has 4 [.ref a_has_words, .ref a_has_lengths], tl_ia (cy 1) a_has_lengths 1000 z.2.2.1, tl_ja (cy 2) a_has_words 2000 z.2.2.2.1])) ([.ref a_this, .int (tl_I p1), .int (tl_I p2)] : List Value).toArray s 0 0 A) (F0 m 51 ls []) := by
    intro n
    induction n with
    | zero =>
      intro x12 x13 x14 x15 x16 x17 out hf
      cases hf
    | succ n ih =>
      intro x12 x13 x14 x15 x16 x17 out hf H locs ls hP hD hS hl hE
      rw [fX1_separateAll_L2] at hf
      refine lv_iload_n hx hb dX1_separateAll_51 rfl (lv_at hl 0 rfl) ?_
      refine tr_if_lt (tgt := 78) hx hb hf dX1_separateAll_52 (by decide) (fun hc hf => ?_) (fun hc hf => ?_)
      · injection hf with hf
        subst hf
        exact hE x13 x14 x15 x16 x17 rfl _ _ _ (hP.sub (ws' := [tl_ob a_this 2 [.ref a_numbers, .ref a_kinds, .ref a_has, .ref a_had, .int (tl_I v_this_objects), .int (tl_I x13)], tl_ob a_had 4 [.ref a_had_words, .ref a_had_lengths], tl_ia (cy 1) a_had_lengths 1000 x14, tl_ja (cy 2) a_had_words 2000 x15, tl_ob a_has 4 [.ref a_has_words, .ref a_has_lengths], tl_ia (cy 1) a_has_lengths 1000 x16, tl_ja (cy 2) a_has_words 2000 x17]) [0, 1, 2, 3, 4, 5, 6] rfl) (hD.sub (ws' := [tl_ob a_this 2 [.ref a_numbers, .ref a_kinds, .ref a_has, .ref a_had, .int (tl_I v_this_objects), .int (tl_I x13)], tl_ob a_had 4 [.ref a_had_words, .ref a_had_lengths], tl_ia (cy 1) a_had_lengths 1000 x14, tl_ja (cy 2) a_had_words 2000 x15, tl_ob a_has 4 [.ref a_has_words, .ref a_has_lengths], tl_ia (cy 1) a_has_lengths 1000 x16, tl_ja (cy 2) a_has_words 2000 x17]) [0, 1, 2, 3, 4, 5, 6] (by decide) rfl) hS (lv_sub hl [] rfl)
      · refine lv_aload_n hx hb dX1_separateAll_55 rfl (lv_at hl 1 rfl) ?_
        refine lv_iload_n hx hb dX1_separateAll_56 rfl (lv_at hl 2 rfl) ?_
        refine lv_aload_n hx hb dX1_separateAll_57 rfl (lv_at hl 1 rfl) ?_
        refine va_get (ci := 2) (v := .ref a_had) (C := RX1) (T := TX1) (N := 6) hx hb hts in_X1 hown hK hP 0 rfl rfl 3 (by decide) (hts _ tw_252) (fun _ h9 => h9) rfl dX1_separateAll_58 ?_
        refine lv_iload_n hx hb dX1_separateAll_61 rfl (lv_at hl 2 rfl) ?_
        refine lv_iload_n hx hb dX1_separateAll_62 rfl (lv_at hl 3 rfl) ?_
        refine lv_iload_n hx hb dX1_separateAll_63 rfl (lv_at hl 0 rfl) ?_
        obtain ⟨z18, hz, hf⟩ := tl_bs hf
        refine tl_callV0 (As := [.int (tl_I p1), .int (tl_I p2), .int (tl_I x12)]) (rest := [.int (tl_I p1), .ref a_this]) (wr := [tl_ob a_this 2 [.ref a_numbers, .ref a_kinds, .ref a_has, .ref a_had, .int (tl_I v_this_objects), .int (tl_I x13)], tl_ob a_has 4 [.ref a_has_words, .ref a_has_lengths], tl_ia (cy 1) a_has_lengths 1000 x16, tl_ja (cy 2) a_has_words 2000 x17]) ⟨hx, hb, hml, hown, hts⟩ (kt_X3_get l D cy a_had a_had_lengths a_had_words x14 x15 p1 p2 x12 z18 hz) (cwV 3 hts tg_X1_81 rfl rfl rfl td_X3_get ⟨by decide, by decide⟩) hK hP hD hS hA [1, 2, 3] [0, 4, 5, 6] rfl rfl rfl rfl (by decide) 1 4 rfl rfl rfl rfl hl.1 rfl (Nat.le_of_ble_eq_true rfl) dX1_separateAll_64 ⟨by decide, by decide⟩ (fun v w1 H locs hp hP hD hS => ?_)
        obtain ⟨rfl, rfl⟩ := hp
        have hP : va_P D vwCl [tl_ob a_this 2 [.ref a_numbers, .ref a_kinds, .ref a_has, .ref a_had, .int (tl_I v_this_objects), .int (tl_I x13)], tl_ob a_has 4 [.ref a_has_words, .ref a_has_lengths], tl_ia (cy 1) a_has_lengths 1000 x16, tl_ja (cy 2) a_has_words 2000 x17, tl_ob a_had 4 [.ref a_had_words, .ref a_had_lengths], tl_ia (cy 1) a_had_lengths 1000 x14, tl_ja (cy 2) a_had_words 2000 x15] H := hP
        have hD : va_D A [tl_ob a_this 2 [.ref a_numbers, .ref a_kinds, .ref a_has, .ref a_had, .int (tl_I v_this_objects), .int (tl_I x13)], tl_ob a_has 4 [.ref a_has_words, .ref a_has_lengths], tl_ia (cy 1) a_has_lengths 1000 x16, tl_ja (cy 2) a_has_words 2000 x17, tl_ob a_had 4 [.ref a_had_words, .ref a_had_lengths], tl_ia (cy 1) a_had_lengths 1000 x14, tl_ja (cy 2) a_had_words 2000 x15] := hD
        refine W.eq (g2 := F0 m 67 ls [.int (tl_I z18), .int (tl_I p1), .ref a_this]) rfl ?_
        refine lv_iload_n hx hb dX1_separateAll_67 rfl (lv_at hl 3 rfl) ?_
        obtain ⟨z19, hz, hf⟩ := tl_bs hf
        refine tl_callV0 (As := [.int (tl_I p1), .int (tl_I z18), .int (tl_I p2)]) (rest := []) (wr := []) ⟨hx, hb, hml, hown, hts⟩ (kt_X1_separate l D cy a_this a_had a_had_lengths a_had_words a_has a_has_lengths a_has_words a_numbers a_kinds v_this_objects x13 x14 x15 x16 x17 p1 z18 p2 z19 hz) (cwV 3 hts tg_X1_85 rfl rfl rfl td_X1_separate ⟨by decide, by decide⟩) hK hP hD hS hA [0, 4, 5, 6, 1, 2, 3] [] rfl rfl rfl rfl (by decide) 0 2 rfl rfl rfl rfl hl.1 rfl (Nat.le_of_ble_eq_true rfl) dX1_separateAll_68 ⟨by decide, by decide⟩ (fun v w1 H locs hp hP hD hS => ?_)
        obtain ⟨rfl, rfl⟩ := hp
        have hP : va_P D vwCl [tl_ob a_this 2 [.ref a_numbers, .ref a_kinds, .ref a_has, .ref a_had, .int (tl_I v_this_objects), .int (tl_I z19.2.2.2.2.2)], tl_ob a_had 4 [.ref a_had_words, .ref a_had_lengths], tl_ia (cy 1) a_had_lengths 1000 z19.2.1, tl_ja (cy 2) a_had_words 2000 z19.2.2.1, tl_ob a_has 4 [.ref a_has_words, .ref a_has_lengths], tl_ia (cy 1) a_has_lengths 1000 z19.2.2.2.1, tl_ja (cy 2) a_has_words 2000 z19.2.2.2.2.1] H := hP
        have hD : va_D A [tl_ob a_this 2 [.ref a_numbers, .ref a_kinds, .ref a_has, .ref a_had, .int (tl_I v_this_objects), .int (tl_I z19.2.2.2.2.2)], tl_ob a_had 4 [.ref a_had_words, .ref a_had_lengths], tl_ia (cy 1) a_had_lengths 1000 z19.2.1, tl_ja (cy 2) a_had_words 2000 z19.2.2.1, tl_ob a_has 4 [.ref a_has_words, .ref a_has_lengths], tl_ia (cy 1) a_has_lengths 1000 z19.2.2.2.1, tl_ja (cy 2) a_has_words 2000 z19.2.2.2.2.1] := hD
        refine W.eq (g2 := F0 m 71 ls [.int (tl_I z19.1)]) rfl ?_
        refine lv_pop hx hb dX1_separateAll_71 rfl ?_
        refine lv_iinc (v := tl_I (x12 + (-1))) (lv' := [(3, .int (tl_I (x12 + (-1)))), (0, .ref a_this), (1, .int (tl_I p1)), (2, .int (tl_I p2))]) hx hb dX1_separateAll_72 hl (k := 0) rfl (tl_add _ _) (by decide) rfl (fun ls hl => ?_)
        refine lv_goto (tgt := 51) hx hb dX1_separateAll_75 (by decide) ?_
        exact ih (x12 + (-1)) z19.2.2.2.2.2 z19.2.1 z19.2.2.1 z19.2.2.2.1 z19.2.2.2.2.1 out hf _ _ _ (hP.sub (ws' := [tl_ob a_this 2 [.ref a_numbers, .ref a_kinds, .ref a_has, .ref a_had, .int (tl_I v_this_objects), .int (tl_I z19.2.2.2.2.2)], tl_ob a_had 4 [.ref a_had_words, .ref a_had_lengths], tl_ia (cy 1) a_had_lengths 1000 z19.2.1, tl_ja (cy 2) a_had_words 2000 z19.2.2.1, tl_ob a_has 4 [.ref a_has_words, .ref a_has_lengths], tl_ia (cy 1) a_has_lengths 1000 z19.2.2.2.1, tl_ja (cy 2) a_has_words 2000 z19.2.2.2.2.1]) [0, 1, 2, 3, 4, 5, 6] rfl) (hD.sub (ws' := [tl_ob a_this 2 [.ref a_numbers, .ref a_kinds, .ref a_has, .ref a_had, .int (tl_I v_this_objects), .int (tl_I z19.2.2.2.2.2)], tl_ob a_had 4 [.ref a_had_words, .ref a_had_lengths], tl_ia (cy 1) a_had_lengths 1000 z19.2.1, tl_ja (cy 2) a_had_words 2000 z19.2.2.1, tl_ob a_has 4 [.ref a_has_words, .ref a_has_lengths], tl_ia (cy 1) a_has_lengths 1000 z19.2.2.2.1, tl_ja (cy 2) a_has_words 2000 z19.2.2.2.2.1]) [0, 1, 2, 3, 4, 5, 6] (by decide) rfl) hS (lv_sub hl [0, 1, 2, 3] rfl) hE
  obtain ⟨o, hz, hf⟩ := tl_bs hf
  refine lp2 tl_N (z11 - (1 : Int)) x3 x4 x5 x6 x7 o hz _ _ _ (hP.sub (ws' := [tl_ob a_this 2 [.ref a_numbers, .ref a_kinds, .ref a_has, .ref a_had, .int (tl_I v_this_objects), .int (tl_I x3)], tl_ob a_had 4 [.ref a_had_words, .ref a_had_lengths], tl_ia (cy 1) a_had_lengths 1000 x4, tl_ja (cy 2) a_had_words 2000 x5, tl_ob a_has 4 [.ref a_has_words, .ref a_has_lengths], tl_ia (cy 1) a_has_lengths 1000 x6, tl_ja (cy 2) a_has_words 2000 x7]) [0, 5, 6, 1, 2, 3, 4] rfl) (hD.sub (ws' := [tl_ob a_this 2 [.ref a_numbers, .ref a_kinds, .ref a_has, .ref a_had, .int (tl_I v_this_objects), .int (tl_I x3)], tl_ob a_had 4 [.ref a_had_words, .ref a_had_lengths], tl_ia (cy 1) a_had_lengths 1000 x4, tl_ja (cy 2) a_had_words 2000 x5, tl_ob a_has 4 [.ref a_has_words, .ref a_has_lengths], tl_ia (cy 1) a_has_lengths 1000 x6, tl_ja (cy 2) a_has_words 2000 x7]) [0, 5, 6, 1, 2, 3, 4] (by decide) rfl) hS (lv_sub hl [0, 1, 2, 3] rfl) ?_
  intro x13 x14 x15 x16 x17 ho H locs ls hP hD hS hl
  subst ho
  try dsimp only at hf
  injection hf with hf
  subst hf
  exact W.vret hx hb hr (fun t ht hW => tl_fin hAe ⟨rfl, rfl⟩ (hP.sub (ws' := [tl_ob a_this 2 [.ref a_numbers, .ref a_kinds, .ref a_has, .ref a_had, .int (tl_I v_this_objects), .int (tl_I x13)], tl_ob a_had 4 [.ref a_had_words, .ref a_had_lengths], tl_ia (cy 1) a_had_lengths 1000 x14, tl_ja (cy 2) a_had_words 2000 x15, tl_ob a_has 4 [.ref a_has_words, .ref a_has_lengths], tl_ia (cy 1) a_has_lengths 1000 x16, tl_ja (cy 2) a_has_words 2000 x17]) [0, 1, 2, 3, 4, 5, 6] rfl) hK (hD.sub (ws' := [tl_ob a_this 2 [.ref a_numbers, .ref a_kinds, .ref a_has, .ref a_had, .int (tl_I v_this_objects), .int (tl_I x13)], tl_ob a_had 4 [.ref a_had_words, .ref a_had_lengths], tl_ia (cy 1) a_had_lengths 1000 x14, tl_ja (cy 2) a_had_words 2000 x15, tl_ob a_has 4 [.ref a_has_words, .ref a_has_lengths], tl_ia (cy 1) a_has_lengths 1000 x16, tl_ja (cy 2) a_has_words 2000 x17]) [0, 1, 2, 3, 4, 5, 6] (by decide) rfl) hS ht hW) hS.2.2 dX1_separateAll_78
set_option maxHeartbeats 4000000 in
set_option maxRecDepth 100000 in
theorem kt_X1_remove (l : Launch) (D : va_G) (cy : Nat → ClassId) (a_this a_had a_had_lengths a_had_words a_has a_has_lengths a_has_words a_numbers a_kinds : Nat) (v_this_objects : Int) (v_this_pairs : Int) (v_had_lengths : Nat → Int) (v_had_words : Nat → Int64) (v_has_lengths : Nat → Int) (v_has_words : Nat → Int64) (v_numbers : Nat → Int) (p1 : Int) (z : (Nat → Int) × (Nat → Int64) × (Nat → Int) × (Nat → Int64) × (Nat → Int) × Int × Int) (hf : fX1_remove v_this_objects v_this_pairs v_had_lengths v_had_words v_has_lengths v_has_words v_numbers p1 = some z) :
    tl_MC l D (tl_tys cy) yX1_remove (tl_w yX1_remove cX1_remove 3 none) { frames := 4, cells := 0, slots := 0, locals := 101 } [.ref a_this, .int (tl_I p1)] [tl_ob a_this 2 [.ref a_numbers, .ref a_kinds, .ref a_has, .ref a_had, .int (tl_I v_this_objects), .int (tl_I v_this_pairs)], tl_ob a_had 4 [.ref a_had_words, .ref a_had_lengths], tl_ia (cy 1) a_had_lengths 1000 v_had_lengths, tl_ja (cy 2) a_had_words 2000 v_had_words, tl_ob a_has 4 [.ref a_has_words, .ref a_has_lengths], tl_ia (cy 1) a_has_lengths 1000 v_has_lengths, tl_ja (cy 2) a_has_words 2000 v_has_words, tl_ia (cy 1) a_numbers 100 v_numbers] 0 0 (fun v w1 => v = none ∧ w1 = [tl_ob a_this 2 [.ref a_numbers, .ref a_kinds, .ref a_has, .ref a_had, .int (tl_I z.2.2.2.2.2.1), .int (tl_I z.2.2.2.2.2.2)], tl_ob a_had 4 [.ref a_had_words, .ref a_had_lengths], tl_ia (cy 1) a_had_lengths 1000 z.1, tl_ja (cy 2) a_had_words 2000 z.2.1, tl_ob a_has 4 [.ref a_has_words, .ref a_has_lengths], tl_ia (cy 1) a_has_lengths 1000 z.2.2.1, tl_ja (cy 2) a_has_words 2000 z.2.2.2.1, tl_ia (cy 1) a_numbers 100 z.2.2.2.2.1]) := by
  refine tl_ofW (cc := cX1_remove) (maxL := 3) (ret := none) (by decide +kernel) (Nat.le_of_ble_eq_true rfl) ?_
  intro p e s m below meth c hx hb hr hml hts hown hlocks hnm A hAe hA hP hK hD hS ls hl
  have hl : lv_has ls 3 [(0, .ref a_this), (1, .int (tl_I p1))] := hl
  unfold fX1_remove at hf
  refine lv_aload_n hx hb dX1_remove_0 rfl (lv_at hl 0 rfl) ?_
  refine lv_iload_n hx hb dX1_remove_1 rfl (lv_at hl 1 rfl) ?_
  obtain ⟨z1, hz, hf⟩ := tl_bs hf
  refine tl_callV0 (As := [.int (tl_I p1)]) (rest := []) (wr := [tl_ob a_had 4 [.ref a_had_words, .ref a_had_lengths], tl_ia (cy 1) a_had_lengths 1000 v_had_lengths, tl_ja (cy 2) a_had_words 2000 v_had_words, tl_ob a_has 4 [.ref a_has_words, .ref a_has_lengths], tl_ia (cy 1) a_has_lengths 1000 v_has_lengths, tl_ja (cy 2) a_has_words 2000 v_has_words]) ⟨hx, hb, hml, hown, hts⟩ (kt_X1_numberOf l D cy a_this a_numbers a_kinds a_has a_had v_this_objects v_this_pairs v_numbers p1 z1 hz) (cwV 1 hts tg_X1_45 rfl rfl rfl td_X1_numberOf ⟨by decide, by decide⟩) hK hP hD hS hA [0, 7] [1, 2, 3, 4, 5, 6] rfl rfl rfl rfl (by decide) 0 2 rfl rfl rfl rfl hl.1 rfl (Nat.le_of_ble_eq_true rfl) dX1_remove_2 ⟨by decide, by decide⟩ (fun v w1 H locs hp hP hD hS => ?_)
  obtain ⟨rfl, rfl⟩ := hp
  have hP : va_P D vwCl [tl_ob a_had 4 [.ref a_had_words, .ref a_had_lengths], tl_ia (cy 1) a_had_lengths 1000 v_had_lengths, tl_ja (cy 2) a_had_words 2000 v_had_words, tl_ob a_has 4 [.ref a_has_words, .ref a_has_lengths], tl_ia (cy 1) a_has_lengths 1000 v_has_lengths, tl_ja (cy 2) a_has_words 2000 v_has_words, tl_ob a_this 2 [.ref a_numbers, .ref a_kinds, .ref a_has, .ref a_had, .int (tl_I v_this_objects), .int (tl_I v_this_pairs)], tl_ia (cy 1) a_numbers 100 v_numbers] H := hP
  have hD : va_D A [tl_ob a_had 4 [.ref a_had_words, .ref a_had_lengths], tl_ia (cy 1) a_had_lengths 1000 v_had_lengths, tl_ja (cy 2) a_had_words 2000 v_had_words, tl_ob a_has 4 [.ref a_has_words, .ref a_has_lengths], tl_ia (cy 1) a_has_lengths 1000 v_has_lengths, tl_ja (cy 2) a_has_words 2000 v_has_words, tl_ob a_this 2 [.ref a_numbers, .ref a_kinds, .ref a_has, .ref a_had, .int (tl_I v_this_objects), .int (tl_I v_this_pairs)], tl_ia (cy 1) a_numbers 100 v_numbers] := hD
  refine W.eq (g2 := F0 m 5 ls [.int (tl_I z1)]) rfl ?_
  refine lv_iconst (v := tl_I (-1 : Int)) hx hb dX1_remove_5 rfl ?_
  refine tr_icmp_ne (tgt := 10) hx hb hf dX1_remove_6 (by decide) (fun hc hf => ?_) (fun hc hf => ?_)
  · injection hf with hf
    subst hf
    exact W.vret hx hb hr (fun t ht hW => tl_fin hAe ⟨rfl, rfl⟩ (hP.sub (ws' := [tl_ob a_this 2 [.ref a_numbers, .ref a_kinds, .ref a_has, .ref a_had, .int (tl_I v_this_objects), .int (tl_I v_this_pairs)], tl_ob a_had 4 [.ref a_had_words, .ref a_had_lengths], tl_ia (cy 1) a_had_lengths 1000 v_had_lengths, tl_ja (cy 2) a_had_words 2000 v_had_words, tl_ob a_has 4 [.ref a_has_words, .ref a_has_lengths], tl_ia (cy 1) a_has_lengths 1000 v_has_lengths, tl_ja (cy 2) a_has_words 2000 v_has_words, tl_ia (cy 1) a_numbers 100 v_numbers]) [6, 0, 1, 2, 3, 4, 5, 7] rfl) hK (hD.sub (ws' := [tl_ob a_this 2 [.ref a_numbers, .ref a_kinds, .ref a_has, .ref a_had, .int (tl_I v_this_objects), .int (tl_I v_this_pairs)], tl_ob a_had 4 [.ref a_had_words, .ref a_had_lengths], tl_ia (cy 1) a_had_lengths 1000 v_had_lengths, tl_ja (cy 2) a_had_words 2000 v_had_words, tl_ob a_has 4 [.ref a_has_words, .ref a_has_lengths], tl_ia (cy 1) a_has_lengths 1000 v_has_lengths, tl_ja (cy 2) a_has_words 2000 v_has_words, tl_ia (cy 1) a_numbers 100 v_numbers]) [6, 0, 1, 2, 3, 4, 5, 7] (by decide) rfl) hS ht hW) hS.2.2 dX1_remove_9
  · refine lv_iconst (v := tl_I (0 : Int)) hx hb dX1_remove_10 rfl ?_
    refine lv_istore_n (lv' := [(2, .int (tl_I (0 : Int))), (0, .ref a_this), (1, .int (tl_I p1))]) hx hb dX1_remove_11 rfl hl (by decide) rfl (fun ls hl => ?_)
    have lp1 : ∀ (n : Nat) (x2 : Int) (x3 : Int) (x4 : Nat → Int) (x5 : Nat → Int64) (x6 : Nat → Int) (x7 : Nat → Int64) (out : Int × (Nat → Int) × (Nat → Int64) × (Nat → Int) × (Nat → Int64)), fX1_remove_L1 v_this_objects p1 n x2 x3 x4 x5 x6 x7 = some out → ∀ (H : Heap) (locs : List Loc) (ls : Array Slot), va_P D vwCl [tl_ob a_this 2 [.ref a_numbers, .ref a_kinds, .ref a_has, .ref a_had, .int (tl_I v_this_objects), .int (tl_I x3)], tl_ob a_had 4 [.ref a_had_words, .ref a_had_lengths], tl_ia (cy 1) a_had_lengths 1000 x4, tl_ja (cy 2) a_had_words 2000 x5, tl_ob a_has 4 [.ref a_has_words, .ref a_has_lengths], tl_ia (cy 1) a_has_lengths 1000 x6, tl_ja (cy 2) a_has_words 2000 x7, tl_ia (cy 1) a_numbers 100 v_numbers] H → va_D A [tl_ob a_this 2 [.ref a_numbers, .ref a_kinds, .ref a_has, .ref a_had, .int (tl_I v_this_objects), .int (tl_I x3)], tl_ob a_had 4 [.ref a_had_words, .ref a_had_lengths], tl_ia (cy 1) a_had_lengths 1000 x4, tl_ja (cy 2) a_had_words 2000 x5, tl_ob a_has 4 [.ref a_has_words, .ref a_has_lengths], tl_ia (cy 1) a_has_lengths 1000 x6, tl_ja (cy 2) a_has_words 2000 x7, tl_ia (cy 1) a_numbers 100 v_numbers] → va_S A s.heap H locs → lv_has ls 3 [(2, .int (tl_I x2)), (0, .ref a_this), (1, .int (tl_I p1))] → (∀ (x3 : Int) (x4 : Nat → Int) (x5 : Nat → Int64) (x6 : Nat → Int) (x7 : Nat → Int64), out = (x3, x4, x5, x6, x7) → ∀ (H : Heap) (locs : List Loc) (ls : Array Slot), va_P D vwCl [tl_ob a_this 2 [.ref a_numbers, .ref a_kinds, .ref a_has, .ref a_had, .int (tl_I v_this_objects), .int (tl_I x3)], tl_ob a_had 4 [.ref a_had_words, .ref a_had_lengths], tl_ia (cy 1) a_had_lengths 1000 x4, tl_ja (cy 2) a_had_words 2000 x5, tl_ob a_has 4 [.ref a_has_words, .ref a_has_lengths], tl_ia (cy 1) a_has_lengths 1000 x6, tl_ja (cy 2) a_has_words 2000 x7, tl_ia (cy 1) a_numbers 100 v_numbers] H → va_D A [tl_ob a_this 2 [.ref a_numbers, .ref a_kinds, .ref a_has, .ref a_had, .int (tl_I v_this_objects), .int (tl_I x3)], tl_ob a_had 4 [.ref a_had_words, .ref a_had_lengths], tl_ia (cy 1) a_had_lengths 1000 x4, tl_ja (cy 2) a_had_words 2000 x5, tl_ob a_has 4 [.ref a_has_words, .ref a_has_lengths], tl_ia (cy 1) a_has_lengths 1000 x6, tl_ja (cy 2) a_has_words 2000 x7, tl_ia (cy 1) a_numbers 100 v_numbers] → va_S A s.heap H locs → lv_has ls 3 [(0, .ref a_this), (1, .int (tl_I p1))] → W p l e { frames := 4, cells := 0, slots := 0, locals := 101 } s m ([.ref a_this, .int (tl_I p1)] : List Value).toArray below meth c H locs 0 0 (MQ below (tl_Q D (tl_tys cy) [tl_ob a_this 2 [.ref a_numbers, .ref a_kinds, .ref a_has, .ref a_had, .int (tl_I v_this_objects), .int (tl_I v_this_pairs)], tl_ob a_had 4 [.ref a_had_words, .ref a_had_lengths], tl_ia (cy 1) a_had_lengths 1000 v_had_lengths, tl_ja (cy 2) a_had_words 2000 v_had_words, tl_ob a_has 4 [.ref a_has_words, .ref a_has_lengths], tl_ia (cy 1) a_has_lengths 1000 v_has_lengths, tl_ja (cy 2) a_has_words 2000 v_has_words, tl_ia (cy 1) a_numbers 100 v_numbers] s.heap.size (fun v w1 => v = none ∧ w1 = [tl_ob a_this 2 [.ref a_numbers, .ref a_kinds, .ref a_has, .ref a_had, .int (tl_I z.2.2.2.2.2.1), .int (tl_I z.2.2.2.2.2.2)], tl_ob a_had 4 [.ref a_had_words, .ref a_had_lengths], tl_ia (cy 1) a_had_lengths 1000 z.1, tl_ja (cy 2) a_had_words 2000 z.2.1, tl_ob a_has 4 [.ref a_has_words, .ref a_has_lengths], tl_ia (cy 1) a_has_lengths 1000 z.2.2.1, tl_ja (cy 2) a_has_words 2000 z.2.2.2.1, tl_ia (cy 1) a_numbers 100 z.2.2.2.2.1])) ([.ref a_this, .int (tl_I p1)] : List Value).toArray s 0 0 A) (F0 m 30 ls [])) → W p l e { frames := 4, cells := 0, slots := 0, locals := 101 } s m ([.ref a_this, .int (tl_I p1)] : List Value).toArray below meth c H locs 0 0 (MQ below (tl_Q D (tl_tys cy) [tl_ob a_this 2 [.ref a_numbers, .ref a_kinds, .ref a_has, .ref a_had, .int (tl_I v_this_objects), .int (tl_I v_this_pairs)], tl_ob a_had 4 [.ref a_had_words, .ref a_had_lengths], tl_ia (cy 1) a_had_lengths 1000 v_had_lengths, tl_ja (cy 2) a_had_words 2000 v_had_words, tl_ob a_has 4 [.ref a_has_words, .ref a_has_lengths], tl_ia (cy 1) a_has_lengths 1000 v_has_lengths, tl_ja (cy 2) a_has_words 2000 v_has_words, tl_ia (cy 1) a_numbers 100 v_numbers] s.heap.size (fun v w1 => v = none ∧ w1 = [tl_ob a_this 2 [.ref a_numbers, .ref a_kinds, .ref a_has, .ref a_had, .int (tl_I z.2.2.2.2.2.1), .int (tl_I z.2.2.2.2.2.2)], tl_ob a_had 4 [.ref a_had_words, .ref a_had_lengths], tl_ia (cy 1) a_had_lengths 1000 z.1, tl_ja (cy 2) a_had_words 2000 z.2.1, tl_ob a_has 4 [.ref a_has_words, .ref a_has_lengths], tl_ia (cy 1) a_has_lengths 1000 z.2.2.1, tl_ja (cy 2) a_has_words 2000 z.2.2.2.1, tl_ia (cy 1) a_numbers 100 z.2.2.2.2.1])) ([.ref a_this, .int (tl_I p1)] : List Value).toArray s 0 0 A) (F0 m 12 ls []) := by
      intro n
      induction n with
      | zero =>
        intro x2 x3 x4 x5 x6 x7 out hf
        cases hf
      | succ n ih =>
        intro x2 x3 x4 x5 x6 x7 out hf H locs ls hP hD hS hl hE
        rw [fX1_remove_L1] at hf
        refine lv_iload_n hx hb dX1_remove_12 rfl (lv_at hl 0 rfl) ?_
        refine lv_bipush (v := tl_I (10 : Int)) hx hb dX1_remove_13 rfl ?_
        refine tr_icmp_ge (tgt := 30) hx hb hf dX1_remove_15 (by decide) (fun hc hf => ?_) (fun hc hf => ?_)
        · refine lv_aload_n hx hb dX1_remove_18 rfl (lv_at hl 1 rfl) ?_
          refine lv_iload_n hx hb dX1_remove_19 rfl (lv_at hl 0 rfl) ?_
          refine lv_iload_n hx hb dX1_remove_20 rfl (lv_at hl 2 rfl) ?_
          obtain ⟨z8, hz, hf⟩ := tl_bs hf
          refine tl_callV0 (As := [.int (tl_I x2), .int (tl_I p1)]) (rest := []) (wr := [tl_ia (cy 1) a_numbers 100 v_numbers]) ⟨hx, hb, hml, hown, hts⟩ (kt_X1_separateAll l D cy a_this a_had a_had_lengths a_had_words a_has a_has_lengths a_has_words a_numbers a_kinds v_this_objects x3 x4 x5 x6 x7 x2 p1 z8 hz) (cwV 2 hts tg_X1_48 rfl rfl rfl td_X1_separateAll ⟨by decide, by decide⟩) hK hP hD hS hA [0, 1, 2, 3, 4, 5, 6] [7] rfl rfl rfl rfl (by decide) 0 2 rfl rfl rfl rfl hl.1 rfl (Nat.le_of_ble_eq_true rfl) dX1_remove_21 ⟨by decide, by decide⟩ (fun v w1 H locs hp hP hD hS => ?_)
          obtain ⟨rfl, rfl⟩ := hp
          have hP : va_P D vwCl [tl_ia (cy 1) a_numbers 100 v_numbers, tl_ob a_this 2 [.ref a_numbers, .ref a_kinds, .ref a_has, .ref a_had, .int (tl_I v_this_objects), .int (tl_I z8.2.2.2.2)], tl_ob a_had 4 [.ref a_had_words, .ref a_had_lengths], tl_ia (cy 1) a_had_lengths 1000 z8.1, tl_ja (cy 2) a_had_words 2000 z8.2.1, tl_ob a_has 4 [.ref a_has_words, .ref a_has_lengths], tl_ia (cy 1) a_has_lengths 1000 z8.2.2.1, tl_ja (cy 2) a_has_words 2000 z8.2.2.2.1] H := hP
          have hD : va_D A [tl_ia (cy 1) a_numbers 100 v_numbers, tl_ob a_this 2 [.ref a_numbers, .ref a_kinds, .ref a_has, .ref a_had, .int (tl_I v_this_objects), .int (tl_I z8.2.2.2.2)], tl_ob a_had 4 [.ref a_had_words, .ref a_had_lengths], tl_ia (cy 1) a_had_lengths 1000 z8.1, tl_ja (cy 2) a_had_words 2000 z8.2.1, tl_ob a_has 4 [.ref a_has_words, .ref a_has_lengths], tl_ia (cy 1) a_has_lengths 1000 z8.2.2.1, tl_ja (cy 2) a_has_words 2000 z8.2.2.2.1] := hD
          refine W.eq (g2 := F0 m 24 ls []) rfl ?_
          refine lv_iinc (v := tl_I (x2 + 1)) (lv' := [(2, .int (tl_I (x2 + 1))), (0, .ref a_this), (1, .int (tl_I p1))]) hx hb dX1_remove_24 hl (k := 0) rfl (tl_add _ _) (by decide) rfl (fun ls hl => ?_)
          refine lv_goto (tgt := 12) hx hb dX1_remove_27 (by decide) ?_
          exact ih (x2 + 1) z8.2.2.2.2 z8.1 z8.2.1 z8.2.2.1 z8.2.2.2.1 out hf _ _ _ (hP.sub (ws' := [tl_ob a_this 2 [.ref a_numbers, .ref a_kinds, .ref a_has, .ref a_had, .int (tl_I v_this_objects), .int (tl_I z8.2.2.2.2)], tl_ob a_had 4 [.ref a_had_words, .ref a_had_lengths], tl_ia (cy 1) a_had_lengths 1000 z8.1, tl_ja (cy 2) a_had_words 2000 z8.2.1, tl_ob a_has 4 [.ref a_has_words, .ref a_has_lengths], tl_ia (cy 1) a_has_lengths 1000 z8.2.2.1, tl_ja (cy 2) a_has_words 2000 z8.2.2.2.1, tl_ia (cy 1) a_numbers 100 v_numbers]) [1, 2, 3, 4, 5, 6, 7, 0] rfl) (hD.sub (ws' := [tl_ob a_this 2 [.ref a_numbers, .ref a_kinds, .ref a_has, .ref a_had, .int (tl_I v_this_objects), .int (tl_I z8.2.2.2.2)], tl_ob a_had 4 [.ref a_had_words, .ref a_had_lengths], tl_ia (cy 1) a_had_lengths 1000 z8.1, tl_ja (cy 2) a_had_words 2000 z8.2.1, tl_ob a_has 4 [.ref a_has_words, .ref a_has_lengths], tl_ia (cy 1) a_has_lengths 1000 z8.2.2.1, tl_ja (cy 2) a_has_words 2000 z8.2.2.2.1, tl_ia (cy 1) a_numbers 100 v_numbers]) [1, 2, 3, 4, 5, 6, 7, 0] (by decide) rfl) hS (lv_sub hl [0, 1, 2] rfl) hE
        · injection hf with hf
          subst hf
          exact hE x3 x4 x5 x6 x7 rfl _ _ _ (hP.sub (ws' := [tl_ob a_this 2 [.ref a_numbers, .ref a_kinds, .ref a_has, .ref a_had, .int (tl_I v_this_objects), .int (tl_I x3)], tl_ob a_had 4 [.ref a_had_words, .ref a_had_lengths], tl_ia (cy 1) a_had_lengths 1000 x4, tl_ja (cy 2) a_had_words 2000 x5, tl_ob a_has 4 [.ref a_has_words, .ref a_has_lengths], tl_ia (cy 1) a_has_lengths 1000 x6, tl_ja (cy 2) a_has_words 2000 x7, tl_ia (cy 1) a_numbers 100 v_numbers]) [0, 1, 2, 3, 4, 5, 6, 7] rfl) (hD.sub (ws' := [tl_ob a_this 2 [.ref a_numbers, .ref a_kinds, .ref a_has, .ref a_had, .int (tl_I v_this_objects), .int (tl_I x3)], tl_ob a_had 4 [.ref a_had_words, .ref a_had_lengths], tl_ia (cy 1) a_had_lengths 1000 x4, tl_ja (cy 2) a_had_words 2000 x5, tl_ob a_has 4 [.ref a_has_words, .ref a_has_lengths], tl_ia (cy 1) a_has_lengths 1000 x6, tl_ja (cy 2) a_has_words 2000 x7, tl_ia (cy 1) a_numbers 100 v_numbers]) [0, 1, 2, 3, 4, 5, 6, 7] (by decide) rfl) hS (lv_sub hl [1, 2] rfl)
    obtain ⟨o, hz, hf⟩ := tl_bs hf
    refine lp1 tl_N (0 : Int) v_this_pairs v_had_lengths v_had_words v_has_lengths v_has_words o hz _ _ _ (hP.sub (ws' := [tl_ob a_this 2 [.ref a_numbers, .ref a_kinds, .ref a_has, .ref a_had, .int (tl_I v_this_objects), .int (tl_I v_this_pairs)], tl_ob a_had 4 [.ref a_had_words, .ref a_had_lengths], tl_ia (cy 1) a_had_lengths 1000 v_had_lengths, tl_ja (cy 2) a_had_words 2000 v_had_words, tl_ob a_has 4 [.ref a_has_words, .ref a_has_lengths], tl_ia (cy 1) a_has_lengths 1000 v_has_lengths, tl_ja (cy 2) a_has_words 2000 v_has_words, tl_ia (cy 1) a_numbers 100 v_numbers]) [6, 0, 1, 2, 3, 4, 5, 7] rfl) (hD.sub (ws' := [tl_ob a_this 2 [.ref a_numbers, .ref a_kinds, .ref a_has, .ref a_had, .int (tl_I v_this_objects), .int (tl_I v_this_pairs)], tl_ob a_had 4 [.ref a_had_words, .ref a_had_lengths], tl_ia (cy 1) a_had_lengths 1000 v_had_lengths, tl_ja (cy 2) a_had_words 2000 v_had_words, tl_ob a_has 4 [.ref a_has_words, .ref a_has_lengths], tl_ia (cy 1) a_has_lengths 1000 v_has_lengths, tl_ja (cy 2) a_has_words 2000 v_has_words, tl_ia (cy 1) a_numbers 100 v_numbers]) [6, 0, 1, 2, 3, 4, 5, 7] (by decide) rfl) hS (lv_sub hl [0, 1, 2] rfl) ?_
    intro x3 x4 x5 x6 x7 ho H locs ls hP hD hS hl
    subst ho
    try dsimp only at hf
    refine lv_aload_n hx hb dX1_remove_30 rfl (lv_at hl 0 rfl) ?_
    refine va_get (ci := 2) (v := .ref a_numbers) (C := RX1) (T := TX1) (N := 6) hx hb hts in_X1 hown hK hP 0 rfl rfl 0 (by decide) (hts _ tw_249) (fun _ h9 => h9) rfl dX1_remove_31 ?_
    refine lv_iload_n hx hb dX1_remove_34 rfl (lv_at hl 1 rfl) ?_
    refine lv_iconst (v := tl_I (-1 : Int)) hx hb dX1_remove_35 rfl ?_
    refine tr_iast hx hb hf hK hP hD hS 7 1 rfl rfl (by decide) dX1_remove_36 (fun hf H locs hP hD hS => ?_)
    have hP : va_P D vwCl [tl_ob a_this 2 [.ref a_numbers, .ref a_kinds, .ref a_has, .ref a_had, .int (tl_I v_this_objects), .int (tl_I x3)], tl_ob a_had 4 [.ref a_had_words, .ref a_had_lengths], tl_ia (cy 1) a_had_lengths 1000 x4, tl_ja (cy 2) a_had_words 2000 x5, tl_ob a_has 4 [.ref a_has_words, .ref a_has_lengths], tl_ia (cy 1) a_has_lengths 1000 x6, tl_ja (cy 2) a_has_words 2000 x7, tl_ia (cy 1) a_numbers 100 (va_up v_numbers p1.toNat (-1 : Int))] H := hP
    have hD : va_D A [tl_ob a_this 2 [.ref a_numbers, .ref a_kinds, .ref a_has, .ref a_had, .int (tl_I v_this_objects), .int (tl_I x3)], tl_ob a_had 4 [.ref a_had_words, .ref a_had_lengths], tl_ia (cy 1) a_had_lengths 1000 x4, tl_ja (cy 2) a_had_words 2000 x5, tl_ob a_has 4 [.ref a_has_words, .ref a_has_lengths], tl_ia (cy 1) a_has_lengths 1000 x6, tl_ja (cy 2) a_has_words 2000 x7, tl_ia (cy 1) a_numbers 100 (va_up v_numbers p1.toNat (-1 : Int))] := hD
    refine lv_aload_n hx hb dX1_remove_37 rfl (lv_at hl 0 rfl) ?_
    refine lv_dup hx hb dX1_remove_38 rfl ?_
    refine va_get (ci := 2) (v := .int (tl_I v_this_objects)) (C := RX1) (T := TX1) (N := 6) hx hb hts in_X1 hown hK hP 0 rfl rfl 4 (by decide) (hts _ tw_253) (fun _ h9 => h9) rfl dX1_remove_39 ?_
    refine lv_iconst (v := tl_I (1 : Int)) hx hb dX1_remove_42 rfl ?_
    refine tr_isub hx hb dX1_remove_43 ?_
    refine va_put (ci := 2) (v := .int (tl_I (v_this_objects - (1 : Int)))) (ty := .int) (C := RX1) (T := TX1) (N := 6) hx hb hts in_X1 tyX1 tyX1_ok nmX1 hown hK hP hD hS 0 rfl rfl 4 (by decide) (hts _ tw_253) (fun _ h9 => h9) rfl (by decide +kernel) rfl rfl (Nat.le_of_ble_eq_true rfl) dX1_remove_44 (fun H locs hP hD hS => ?_)
    have hP : va_P D vwCl [tl_ob a_this 2 [.ref a_numbers, .ref a_kinds, .ref a_has, .ref a_had, .int (tl_I (v_this_objects - (1 : Int))), .int (tl_I x3)], tl_ob a_had 4 [.ref a_had_words, .ref a_had_lengths], tl_ia (cy 1) a_had_lengths 1000 x4, tl_ja (cy 2) a_had_words 2000 x5, tl_ob a_has 4 [.ref a_has_words, .ref a_has_lengths], tl_ia (cy 1) a_has_lengths 1000 x6, tl_ja (cy 2) a_has_words 2000 x7, tl_ia (cy 1) a_numbers 100 (va_up v_numbers p1.toNat (-1 : Int))] H := hP
    have hD : va_D A [tl_ob a_this 2 [.ref a_numbers, .ref a_kinds, .ref a_has, .ref a_had, .int (tl_I (v_this_objects - (1 : Int))), .int (tl_I x3)], tl_ob a_had 4 [.ref a_had_words, .ref a_had_lengths], tl_ia (cy 1) a_had_lengths 1000 x4, tl_ja (cy 2) a_had_words 2000 x5, tl_ob a_has 4 [.ref a_has_words, .ref a_has_lengths], tl_ia (cy 1) a_has_lengths 1000 x6, tl_ja (cy 2) a_has_words 2000 x7, tl_ia (cy 1) a_numbers 100 (va_up v_numbers p1.toNat (-1 : Int))] := hD
    injection hf with hf
    subst hf
    exact W.vret hx hb hr (fun t ht hW => tl_fin hAe ⟨rfl, rfl⟩ (hP.sub (ws' := [tl_ob a_this 2 [.ref a_numbers, .ref a_kinds, .ref a_has, .ref a_had, .int (tl_I (v_this_objects - (1 : Int))), .int (tl_I x3)], tl_ob a_had 4 [.ref a_had_words, .ref a_had_lengths], tl_ia (cy 1) a_had_lengths 1000 x4, tl_ja (cy 2) a_had_words 2000 x5, tl_ob a_has 4 [.ref a_has_words, .ref a_has_lengths], tl_ia (cy 1) a_has_lengths 1000 x6, tl_ja (cy 2) a_has_words 2000 x7, tl_ia (cy 1) a_numbers 100 (va_up v_numbers p1.toNat (-1 : Int))]) [0, 1, 2, 3, 4, 5, 6, 7] rfl) hK (hD.sub (ws' := [tl_ob a_this 2 [.ref a_numbers, .ref a_kinds, .ref a_has, .ref a_had, .int (tl_I (v_this_objects - (1 : Int))), .int (tl_I x3)], tl_ob a_had 4 [.ref a_had_words, .ref a_had_lengths], tl_ia (cy 1) a_had_lengths 1000 x4, tl_ja (cy 2) a_had_words 2000 x5, tl_ob a_has 4 [.ref a_has_words, .ref a_has_lengths], tl_ia (cy 1) a_has_lengths 1000 x6, tl_ja (cy 2) a_has_words 2000 x7, tl_ia (cy 1) a_numbers 100 (va_up v_numbers p1.toNat (-1 : Int))]) [0, 1, 2, 3, 4, 5, 6, 7] (by decide) rfl) hS ht hW) hS.2.2 dX1_remove_47
set_option maxHeartbeats 4000000 in
set_option maxRecDepth 100000 in
theorem kt_X1_isJoined (l : Launch) (D : va_G) (cy : Nat → ClassId) (a_this a_has a_has_lengths a_has_words a_numbers a_kinds a_had : Nat) (v_this_objects : Int) (v_this_pairs : Int) (v_has_lengths : Nat → Int) (v_has_words : Nat → Int64) (p1 : Int) (p2 : Int) (p3 : Int) (z : Int) (hf : fX1_isJoined v_this_objects v_this_pairs v_has_lengths v_has_words p1 p2 p3 = some z) :
    tl_MC l D (tl_tys cy) yX1_isJoined (tl_w yX1_isJoined cX1_isJoined 4 (some .boolean)) { frames := 3, cells := 0, slots := 0, locals := 68 } [.ref a_this, .int (tl_I p1), .int (tl_I p2), .int (tl_I p3)] [tl_ob a_this 2 [.ref a_numbers, .ref a_kinds, .ref a_has, .ref a_had, .int (tl_I v_this_objects), .int (tl_I v_this_pairs)], tl_ob a_has 4 [.ref a_has_words, .ref a_has_lengths], tl_ia (cy 1) a_has_lengths 1000 v_has_lengths, tl_ja (cy 2) a_has_words 2000 v_has_words] 0 0 (fun v w1 => v = some (.int (tl_I z)) ∧ w1 = [tl_ob a_this 2 [.ref a_numbers, .ref a_kinds, .ref a_has, .ref a_had, .int (tl_I v_this_objects), .int (tl_I v_this_pairs)], tl_ob a_has 4 [.ref a_has_words, .ref a_has_lengths], tl_ia (cy 1) a_has_lengths 1000 v_has_lengths, tl_ja (cy 2) a_has_words 2000 v_has_words]) := by
  refine tl_ofW (cc := cX1_isJoined) (maxL := 4) (ret := (some .boolean)) (by decide +kernel) (Nat.le_of_ble_eq_true rfl) ?_
  intro p e s m below meth c hx hb hr hml hts hown hlocks hnm A hAe hA hP hK hD hS ls hl
  have hl : lv_has ls 4 [(0, .ref a_this), (1, .int (tl_I p1)), (2, .int (tl_I p2)), (3, .int (tl_I p3))] := hl
  unfold fX1_isJoined at hf
  refine lv_aload_n hx hb dX1_isJoined_0 rfl (lv_at hl 0 rfl) ?_
  refine va_get (ci := 2) (v := .ref a_has) (C := RX1) (T := TX1) (N := 6) hx hb hts in_X1 hown hK hP 0 rfl rfl 2 (by decide) (hts _ tw_251) (fun _ h9 => h9) rfl dX1_isJoined_1 ?_
  refine lv_iload_n hx hb dX1_isJoined_4 rfl (lv_at hl 1 rfl) ?_
  refine lv_iload_n hx hb dX1_isJoined_5 rfl (lv_at hl 2 rfl) ?_
  refine lv_iload_n hx hb dX1_isJoined_6 rfl (lv_at hl 3 rfl) ?_
  obtain ⟨z1, hz, hf⟩ := tl_bs hf
  refine tl_callV0 (As := [.int (tl_I p1), .int (tl_I p2), .int (tl_I p3)]) (rest := []) (wr := [tl_ob a_this 2 [.ref a_numbers, .ref a_kinds, .ref a_has, .ref a_had, .int (tl_I v_this_objects), .int (tl_I v_this_pairs)]]) ⟨hx, hb, hml, hown, hts⟩ (kt_X3_holds l D cy a_has a_has_lengths a_has_words v_has_lengths v_has_words p1 p2 p3 z1 hz) (cwV 3 hts tg_X1_52 rfl rfl rfl td_X3_holds ⟨by decide, by decide⟩) hK hP hD hS hA [1, 2, 3] [0] rfl rfl rfl rfl (by decide) 1 4 rfl rfl rfl rfl hl.1 rfl (Nat.le_of_ble_eq_true rfl) dX1_isJoined_7 ⟨by decide, by decide⟩ (fun v w1 H locs hp hP hD hS => ?_)
  obtain ⟨rfl, rfl⟩ := hp
  have hP : va_P D vwCl [tl_ob a_this 2 [.ref a_numbers, .ref a_kinds, .ref a_has, .ref a_had, .int (tl_I v_this_objects), .int (tl_I v_this_pairs)], tl_ob a_has 4 [.ref a_has_words, .ref a_has_lengths], tl_ia (cy 1) a_has_lengths 1000 v_has_lengths, tl_ja (cy 2) a_has_words 2000 v_has_words] H := hP
  have hD : va_D A [tl_ob a_this 2 [.ref a_numbers, .ref a_kinds, .ref a_has, .ref a_had, .int (tl_I v_this_objects), .int (tl_I v_this_pairs)], tl_ob a_has 4 [.ref a_has_words, .ref a_has_lengths], tl_ia (cy 1) a_has_lengths 1000 v_has_lengths, tl_ja (cy 2) a_has_words 2000 v_has_words] := hD
  refine W.eq (g2 := F0 m 10 ls [.int (tl_I z1)]) rfl ?_
  obtain ⟨hg9, hf⟩ := tl_gs hf
  injection hf with hf
  subst hf
  exact W.zret (v := tl_I z1) hx hb hr (tl_nar01 hg9) (fun t ht hW => tl_fin hAe ⟨rfl, rfl⟩ (hP.sub (ws' := [tl_ob a_this 2 [.ref a_numbers, .ref a_kinds, .ref a_has, .ref a_had, .int (tl_I v_this_objects), .int (tl_I v_this_pairs)], tl_ob a_has 4 [.ref a_has_words, .ref a_has_lengths], tl_ia (cy 1) a_has_lengths 1000 v_has_lengths, tl_ja (cy 2) a_has_words 2000 v_has_words]) [0, 1, 2, 3] rfl) hK (hD.sub (ws' := [tl_ob a_this 2 [.ref a_numbers, .ref a_kinds, .ref a_has, .ref a_had, .int (tl_I v_this_objects), .int (tl_I v_this_pairs)], tl_ob a_has 4 [.ref a_has_words, .ref a_has_lengths], tl_ia (cy 1) a_has_lengths 1000 v_has_lengths, tl_ja (cy 2) a_has_words 2000 v_has_words]) [0, 1, 2, 3] (by decide) rfl) hS ht hW) hS.2.2 dX1_isJoined_10
set_option maxHeartbeats 4000000 in
set_option maxRecDepth 100000 in
theorem kt_X1_join (l : Launch) (D : va_G) (cy : Nat → ClassId) (a_this a_had a_had_lengths a_had_words a_has a_has_lengths a_has_words a_numbers a_kinds : Nat) (v_this_objects : Int) (v_this_pairs : Int) (v_had_lengths : Nat → Int) (v_had_words : Nat → Int64) (v_has_lengths : Nat → Int) (v_has_words : Nat → Int64) (p1 : Int) (p2 : Int) (p3 : Int) (p4 : Int) (z : (Nat → Int) × (Nat → Int64) × (Nat → Int) × (Nat → Int64) × Int) (hf : fX1_join v_this_objects v_this_pairs v_had_lengths v_had_words v_has_lengths v_has_words p1 p2 p3 p4 = some z) :
    tl_MC l D (tl_tys cy) yX1_join (tl_w yX1_join cX1_join 5 none) { frames := 3, cells := 0, slots := 0, locals := 77 } [.ref a_this, .int (tl_I p1), .int (tl_I p2), .int (tl_I p3), .int (tl_I p4)] [tl_ob a_this 2 [.ref a_numbers, .ref a_kinds, .ref a_has, .ref a_had, .int (tl_I v_this_objects), .int (tl_I v_this_pairs)], tl_ob a_had 4 [.ref a_had_words, .ref a_had_lengths], tl_ia (cy 1) a_had_lengths 1000 v_had_lengths, tl_ja (cy 2) a_had_words 2000 v_had_words, tl_ob a_has 4 [.ref a_has_words, .ref a_has_lengths], tl_ia (cy 1) a_has_lengths 1000 v_has_lengths, tl_ja (cy 2) a_has_words 2000 v_has_words] 0 0 (fun v w1 => v = none ∧ w1 = [tl_ob a_this 2 [.ref a_numbers, .ref a_kinds, .ref a_has, .ref a_had, .int (tl_I v_this_objects), .int (tl_I z.2.2.2.2)], tl_ob a_had 4 [.ref a_had_words, .ref a_had_lengths], tl_ia (cy 1) a_had_lengths 1000 z.1, tl_ja (cy 2) a_had_words 2000 z.2.1, tl_ob a_has 4 [.ref a_has_words, .ref a_has_lengths], tl_ia (cy 1) a_has_lengths 1000 z.2.2.1, tl_ja (cy 2) a_has_words 2000 z.2.2.2.1]) := by
  refine tl_ofW (cc := cX1_join) (maxL := 5) (ret := none) (by decide +kernel) (Nat.le_of_ble_eq_true rfl) ?_
  intro p e s m below meth c hx hb hr hml hts hown hlocks hnm A hAe hA hP hK hD hS ls hl
  have hl : lv_has ls 5 [(0, .ref a_this), (1, .int (tl_I p1)), (2, .int (tl_I p2)), (3, .int (tl_I p3)), (4, .int (tl_I p4))] := hl
  unfold fX1_join at hf
  refine lv_aload_n hx hb dX1_join_0 rfl (lv_at hl 0 rfl) ?_
  refine va_get (ci := 2) (v := .ref a_has) (C := RX1) (T := TX1) (N := 6) hx hb hts in_X1 hown hK hP 0 rfl rfl 2 (by decide) (hts _ tw_251) (fun _ h9 => h9) rfl dX1_join_1 ?_
  refine lv_iload_n hx hb dX1_join_4 rfl (lv_at hl 1 rfl) ?_
  refine lv_iload_n hx hb dX1_join_5 rfl (lv_at hl 2 rfl) ?_
  refine lv_iload hx hb dX1_join_6 (lv_at hl 4 rfl) ?_
  refine lv_iload_n hx hb dX1_join_8 rfl (lv_at hl 3 rfl) ?_
  obtain ⟨z1, hz, hf⟩ := tl_bs hf
  refine tl_callV0 (As := [.int (tl_I p1), .int (tl_I p2), .int (tl_I p4), .int (tl_I p3)]) (rest := []) (wr := [tl_ob a_this 2 [.ref a_numbers, .ref a_kinds, .ref a_has, .ref a_had, .int (tl_I v_this_objects), .int (tl_I v_this_pairs)], tl_ob a_had 4 [.ref a_had_words, .ref a_had_lengths], tl_ia (cy 1) a_had_lengths 1000 v_had_lengths, tl_ja (cy 2) a_had_words 2000 v_had_words]) ⟨hx, hb, hml, hown, hts⟩ (kt_X3_insert l D cy a_has a_has_lengths a_has_words v_has_lengths v_has_words p1 p2 p4 p3 z1 hz) (cwV 4 hts tg_X1_56 rfl rfl rfl td_X3_insert ⟨by decide, by decide⟩) hK hP hD hS hA [4, 5, 6] [0, 1, 2, 3] rfl rfl rfl rfl (by decide) 4 4 rfl rfl rfl rfl hl.1 rfl (Nat.le_of_ble_eq_true rfl) dX1_join_9 ⟨by decide, by decide⟩ (fun v w1 H locs hp hP hD hS => ?_)
  obtain ⟨rfl, rfl⟩ := hp
  have hP : va_P D vwCl [tl_ob a_this 2 [.ref a_numbers, .ref a_kinds, .ref a_has, .ref a_had, .int (tl_I v_this_objects), .int (tl_I v_this_pairs)], tl_ob a_had 4 [.ref a_had_words, .ref a_had_lengths], tl_ia (cy 1) a_had_lengths 1000 v_had_lengths, tl_ja (cy 2) a_had_words 2000 v_had_words, tl_ob a_has 4 [.ref a_has_words, .ref a_has_lengths], tl_ia (cy 1) a_has_lengths 1000 z1.1, tl_ja (cy 2) a_has_words 2000 z1.2] H := hP
  have hD : va_D A [tl_ob a_this 2 [.ref a_numbers, .ref a_kinds, .ref a_has, .ref a_had, .int (tl_I v_this_objects), .int (tl_I v_this_pairs)], tl_ob a_had 4 [.ref a_had_words, .ref a_had_lengths], tl_ia (cy 1) a_had_lengths 1000 v_had_lengths, tl_ja (cy 2) a_had_words 2000 v_had_words, tl_ob a_has 4 [.ref a_has_words, .ref a_has_lengths], tl_ia (cy 1) a_has_lengths 1000 z1.1, tl_ja (cy 2) a_has_words 2000 z1.2] := hD
  refine W.eq (g2 := F0 m 12 ls []) rfl ?_
  refine lv_aload_n hx hb dX1_join_12 rfl (lv_at hl 0 rfl) ?_
  refine va_get (ci := 2) (v := .ref a_had) (C := RX1) (T := TX1) (N := 6) hx hb hts in_X1 hown hK hP 0 rfl rfl 3 (by decide) (hts _ tw_252) (fun _ h9 => h9) rfl dX1_join_13 ?_
  refine lv_iload_n hx hb dX1_join_16 rfl (lv_at hl 1 rfl) ?_
  refine lv_iload_n hx hb dX1_join_17 rfl (lv_at hl 3 rfl) ?_
  refine lv_iload_n hx hb dX1_join_18 rfl (lv_at hl 2 rfl) ?_
  obtain ⟨z2, hz, hf⟩ := tl_bs hf
  refine tl_callV0 (As := [.int (tl_I p1), .int (tl_I p3), .int (tl_I p2)]) (rest := []) (wr := [tl_ob a_this 2 [.ref a_numbers, .ref a_kinds, .ref a_has, .ref a_had, .int (tl_I v_this_objects), .int (tl_I v_this_pairs)], tl_ob a_has 4 [.ref a_has_words, .ref a_has_lengths], tl_ia (cy 1) a_has_lengths 1000 z1.1, tl_ja (cy 2) a_has_words 2000 z1.2]) ⟨hx, hb, hml, hown, hts⟩ (kt_X3_append l D cy a_had a_had_lengths a_had_words v_had_lengths v_had_words p1 p3 p2 z2 hz) (cwV 3 hts tg_X1_60 rfl rfl rfl td_X3_append ⟨by decide, by decide⟩) hK hP hD hS hA [1, 2, 3] [0, 4, 5, 6] rfl rfl rfl rfl (by decide) 1 4 rfl rfl rfl rfl hl.1 rfl (Nat.le_of_ble_eq_true rfl) dX1_join_19 ⟨by decide, by decide⟩ (fun v w1 H locs hp hP hD hS => ?_)
  obtain ⟨rfl, rfl⟩ := hp
  have hP : va_P D vwCl [tl_ob a_this 2 [.ref a_numbers, .ref a_kinds, .ref a_has, .ref a_had, .int (tl_I v_this_objects), .int (tl_I v_this_pairs)], tl_ob a_has 4 [.ref a_has_words, .ref a_has_lengths], tl_ia (cy 1) a_has_lengths 1000 z1.1, tl_ja (cy 2) a_has_words 2000 z1.2, tl_ob a_had 4 [.ref a_had_words, .ref a_had_lengths], tl_ia (cy 1) a_had_lengths 1000 z2.1, tl_ja (cy 2) a_had_words 2000 z2.2] H := hP
  have hD : va_D A [tl_ob a_this 2 [.ref a_numbers, .ref a_kinds, .ref a_has, .ref a_had, .int (tl_I v_this_objects), .int (tl_I v_this_pairs)], tl_ob a_has 4 [.ref a_has_words, .ref a_has_lengths], tl_ia (cy 1) a_has_lengths 1000 z1.1, tl_ja (cy 2) a_has_words 2000 z1.2, tl_ob a_had 4 [.ref a_had_words, .ref a_had_lengths], tl_ia (cy 1) a_had_lengths 1000 z2.1, tl_ja (cy 2) a_had_words 2000 z2.2] := hD
  refine W.eq (g2 := F0 m 22 ls []) rfl ?_
  refine lv_aload_n hx hb dX1_join_22 rfl (lv_at hl 0 rfl) ?_
  refine lv_dup hx hb dX1_join_23 rfl ?_
  refine va_get (ci := 2) (v := .int (tl_I v_this_pairs)) (C := RX1) (T := TX1) (N := 6) hx hb hts in_X1 hown hK hP 0 rfl rfl 5 (by decide) (hts _ tw_254) (fun _ h9 => h9) rfl dX1_join_24 ?_
  refine lv_iconst (v := tl_I (1 : Int)) hx hb dX1_join_27 rfl ?_
  refine tr_iadd hx hb dX1_join_28 ?_
  refine va_put (ci := 2) (v := .int (tl_I (v_this_pairs + (1 : Int)))) (ty := .int) (C := RX1) (T := TX1) (N := 6) hx hb hts in_X1 tyX1 tyX1_ok nmX1 hown hK hP hD hS 0 rfl rfl 5 (by decide) (hts _ tw_254) (fun _ h9 => h9) rfl (by decide +kernel) rfl rfl (Nat.le_of_ble_eq_true rfl) dX1_join_29 (fun H locs hP hD hS => ?_)
  have hP : va_P D vwCl [tl_ob a_this 2 [.ref a_numbers, .ref a_kinds, .ref a_has, .ref a_had, .int (tl_I v_this_objects), .int (tl_I (v_this_pairs + (1 : Int)))], tl_ob a_has 4 [.ref a_has_words, .ref a_has_lengths], tl_ia (cy 1) a_has_lengths 1000 z1.1, tl_ja (cy 2) a_has_words 2000 z1.2, tl_ob a_had 4 [.ref a_had_words, .ref a_had_lengths], tl_ia (cy 1) a_had_lengths 1000 z2.1, tl_ja (cy 2) a_had_words 2000 z2.2] H := hP
  have hD : va_D A [tl_ob a_this 2 [.ref a_numbers, .ref a_kinds, .ref a_has, .ref a_had, .int (tl_I v_this_objects), .int (tl_I (v_this_pairs + (1 : Int)))], tl_ob a_has 4 [.ref a_has_words, .ref a_has_lengths], tl_ia (cy 1) a_has_lengths 1000 z1.1, tl_ja (cy 2) a_has_words 2000 z1.2, tl_ob a_had 4 [.ref a_had_words, .ref a_had_lengths], tl_ia (cy 1) a_had_lengths 1000 z2.1, tl_ja (cy 2) a_had_words 2000 z2.2] := hD
  injection hf with hf
  subst hf
  exact W.vret hx hb hr (fun t ht hW => tl_fin hAe ⟨rfl, rfl⟩ (hP.sub (ws' := [tl_ob a_this 2 [.ref a_numbers, .ref a_kinds, .ref a_has, .ref a_had, .int (tl_I v_this_objects), .int (tl_I (v_this_pairs + (1 : Int)))], tl_ob a_had 4 [.ref a_had_words, .ref a_had_lengths], tl_ia (cy 1) a_had_lengths 1000 z2.1, tl_ja (cy 2) a_had_words 2000 z2.2, tl_ob a_has 4 [.ref a_has_words, .ref a_has_lengths], tl_ia (cy 1) a_has_lengths 1000 z1.1, tl_ja (cy 2) a_has_words 2000 z1.2]) [0, 4, 5, 6, 1, 2, 3] rfl) hK (hD.sub (ws' := [tl_ob a_this 2 [.ref a_numbers, .ref a_kinds, .ref a_has, .ref a_had, .int (tl_I v_this_objects), .int (tl_I (v_this_pairs + (1 : Int)))], tl_ob a_had 4 [.ref a_had_words, .ref a_had_lengths], tl_ia (cy 1) a_had_lengths 1000 z2.1, tl_ja (cy 2) a_had_words 2000 z2.2, tl_ob a_has 4 [.ref a_has_words, .ref a_has_lengths], tl_ia (cy 1) a_has_lengths 1000 z1.1, tl_ja (cy 2) a_has_words 2000 z1.2]) [0, 4, 5, 6, 1, 2, 3] (by decide) rfl) hS ht hW) hS.2.2 dX1_join_32
set_option maxHeartbeats 4000000 in
set_option maxRecDepth 100000 in
theorem kt_X1_joinHas (l : Launch) (D : va_G) (cy : Nat → ClassId) (a_this a_has a_has_lengths a_has_words a_numbers a_kinds a_had : Nat) (v_this_objects : Int) (v_this_pairs : Int) (v_has_lengths : Nat → Int) (v_has_words : Nat → Int64) (p1 : Int) (p2 : Int) (p3 : Int) (z : (Nat → Int) × (Nat → Int64) × Int) (hf : fX1_joinHas v_this_objects v_this_pairs v_has_lengths v_has_words p1 p2 p3 = some z) :
    tl_MC l D (tl_tys cy) yX1_joinHas (tl_w yX1_joinHas cX1_joinHas 4 none) { frames := 3, cells := 0, slots := 0, locals := 77 } [.ref a_this, .int (tl_I p1), .int (tl_I p2), .int (tl_I p3)] [tl_ob a_this 2 [.ref a_numbers, .ref a_kinds, .ref a_has, .ref a_had, .int (tl_I v_this_objects), .int (tl_I v_this_pairs)], tl_ob a_has 4 [.ref a_has_words, .ref a_has_lengths], tl_ia (cy 1) a_has_lengths 1000 v_has_lengths, tl_ja (cy 2) a_has_words 2000 v_has_words] 0 0 (fun v w1 => v = none ∧ w1 = [tl_ob a_this 2 [.ref a_numbers, .ref a_kinds, .ref a_has, .ref a_had, .int (tl_I v_this_objects), .int (tl_I z.2.2)], tl_ob a_has 4 [.ref a_has_words, .ref a_has_lengths], tl_ia (cy 1) a_has_lengths 1000 z.1, tl_ja (cy 2) a_has_words 2000 z.2.1]) := by
  refine tl_ofW (cc := cX1_joinHas) (maxL := 4) (ret := none) (by decide +kernel) (Nat.le_of_ble_eq_true rfl) ?_
  intro p e s m below meth c hx hb hr hml hts hown hlocks hnm A hAe hA hP hK hD hS ls hl
  have hl : lv_has ls 4 [(0, .ref a_this), (1, .int (tl_I p1)), (2, .int (tl_I p2)), (3, .int (tl_I p3))] := hl
  unfold fX1_joinHas at hf
  refine lv_aload_n hx hb dX1_joinHas_0 rfl (lv_at hl 0 rfl) ?_
  refine va_get (ci := 2) (v := .ref a_has) (C := RX1) (T := TX1) (N := 6) hx hb hts in_X1 hown hK hP 0 rfl rfl 2 (by decide) (hts _ tw_251) (fun _ h9 => h9) rfl dX1_joinHas_1 ?_
  refine lv_iload_n hx hb dX1_joinHas_4 rfl (lv_at hl 1 rfl) ?_
  refine lv_iload_n hx hb dX1_joinHas_5 rfl (lv_at hl 2 rfl) ?_
  refine lv_iload_n hx hb dX1_joinHas_6 rfl (lv_at hl 3 rfl) ?_
  obtain ⟨z1, hz, hf⟩ := tl_bs hf
  refine tl_callV0 (As := [.int (tl_I p1), .int (tl_I p2), .int (tl_I p3)]) (rest := []) (wr := [tl_ob a_this 2 [.ref a_numbers, .ref a_kinds, .ref a_has, .ref a_had, .int (tl_I v_this_objects), .int (tl_I v_this_pairs)]]) ⟨hx, hb, hml, hown, hts⟩ (kt_X3_append l D cy a_has a_has_lengths a_has_words v_has_lengths v_has_words p1 p2 p3 z1 hz) (cwV 3 hts tg_X1_60 rfl rfl rfl td_X3_append ⟨by decide, by decide⟩) hK hP hD hS hA [1, 2, 3] [0] rfl rfl rfl rfl (by decide) 1 4 rfl rfl rfl rfl hl.1 rfl (Nat.le_of_ble_eq_true rfl) dX1_joinHas_7 ⟨by decide, by decide⟩ (fun v w1 H locs hp hP hD hS => ?_)
  obtain ⟨rfl, rfl⟩ := hp
  have hP : va_P D vwCl [tl_ob a_this 2 [.ref a_numbers, .ref a_kinds, .ref a_has, .ref a_had, .int (tl_I v_this_objects), .int (tl_I v_this_pairs)], tl_ob a_has 4 [.ref a_has_words, .ref a_has_lengths], tl_ia (cy 1) a_has_lengths 1000 z1.1, tl_ja (cy 2) a_has_words 2000 z1.2] H := hP
  have hD : va_D A [tl_ob a_this 2 [.ref a_numbers, .ref a_kinds, .ref a_has, .ref a_had, .int (tl_I v_this_objects), .int (tl_I v_this_pairs)], tl_ob a_has 4 [.ref a_has_words, .ref a_has_lengths], tl_ia (cy 1) a_has_lengths 1000 z1.1, tl_ja (cy 2) a_has_words 2000 z1.2] := hD
  refine W.eq (g2 := F0 m 10 ls []) rfl ?_
  refine lv_aload_n hx hb dX1_joinHas_10 rfl (lv_at hl 0 rfl) ?_
  refine lv_dup hx hb dX1_joinHas_11 rfl ?_
  refine va_get (ci := 2) (v := .int (tl_I v_this_pairs)) (C := RX1) (T := TX1) (N := 6) hx hb hts in_X1 hown hK hP 0 rfl rfl 5 (by decide) (hts _ tw_254) (fun _ h9 => h9) rfl dX1_joinHas_12 ?_
  refine lv_iconst (v := tl_I (1 : Int)) hx hb dX1_joinHas_15 rfl ?_
  refine tr_iadd hx hb dX1_joinHas_16 ?_
  refine va_put (ci := 2) (v := .int (tl_I (v_this_pairs + (1 : Int)))) (ty := .int) (C := RX1) (T := TX1) (N := 6) hx hb hts in_X1 tyX1 tyX1_ok nmX1 hown hK hP hD hS 0 rfl rfl 5 (by decide) (hts _ tw_254) (fun _ h9 => h9) rfl (by decide +kernel) rfl rfl (Nat.le_of_ble_eq_true rfl) dX1_joinHas_17 (fun H locs hP hD hS => ?_)
  have hP : va_P D vwCl [tl_ob a_this 2 [.ref a_numbers, .ref a_kinds, .ref a_has, .ref a_had, .int (tl_I v_this_objects), .int (tl_I (v_this_pairs + (1 : Int)))], tl_ob a_has 4 [.ref a_has_words, .ref a_has_lengths], tl_ia (cy 1) a_has_lengths 1000 z1.1, tl_ja (cy 2) a_has_words 2000 z1.2] H := hP
  have hD : va_D A [tl_ob a_this 2 [.ref a_numbers, .ref a_kinds, .ref a_has, .ref a_had, .int (tl_I v_this_objects), .int (tl_I (v_this_pairs + (1 : Int)))], tl_ob a_has 4 [.ref a_has_words, .ref a_has_lengths], tl_ia (cy 1) a_has_lengths 1000 z1.1, tl_ja (cy 2) a_has_words 2000 z1.2] := hD
  injection hf with hf
  subst hf
  exact W.vret hx hb hr (fun t ht hW => tl_fin hAe ⟨rfl, rfl⟩ (hP.sub (ws' := [tl_ob a_this 2 [.ref a_numbers, .ref a_kinds, .ref a_has, .ref a_had, .int (tl_I v_this_objects), .int (tl_I (v_this_pairs + (1 : Int)))], tl_ob a_has 4 [.ref a_has_words, .ref a_has_lengths], tl_ia (cy 1) a_has_lengths 1000 z1.1, tl_ja (cy 2) a_has_words 2000 z1.2]) [0, 1, 2, 3] rfl) hK (hD.sub (ws' := [tl_ob a_this 2 [.ref a_numbers, .ref a_kinds, .ref a_has, .ref a_had, .int (tl_I v_this_objects), .int (tl_I (v_this_pairs + (1 : Int)))], tl_ob a_has 4 [.ref a_has_words, .ref a_has_lengths], tl_ia (cy 1) a_has_lengths 1000 z1.1, tl_ja (cy 2) a_has_words 2000 z1.2]) [0, 1, 2, 3] (by decide) rfl) hS ht hW) hS.2.2 dX1_joinHas_20
set_option maxHeartbeats 4000000 in
set_option maxRecDepth 100000 in
theorem kt_X1_joinHad (l : Launch) (D : va_G) (cy : Nat → ClassId) (a_this a_had a_had_lengths a_had_words a_numbers a_kinds a_has : Nat) (v_this_objects : Int) (v_this_pairs : Int) (v_had_lengths : Nat → Int) (v_had_words : Nat → Int64) (p1 : Int) (p2 : Int) (p3 : Int) (z : (Nat → Int) × (Nat → Int64)) (hf : fX1_joinHad v_this_objects v_this_pairs v_had_lengths v_had_words p1 p2 p3 = some z) :
    tl_MC l D (tl_tys cy) yX1_joinHad (tl_w yX1_joinHad cX1_joinHad 4 none) { frames := 3, cells := 0, slots := 0, locals := 77 } [.ref a_this, .int (tl_I p1), .int (tl_I p2), .int (tl_I p3)] [tl_ob a_this 2 [.ref a_numbers, .ref a_kinds, .ref a_has, .ref a_had, .int (tl_I v_this_objects), .int (tl_I v_this_pairs)], tl_ob a_had 4 [.ref a_had_words, .ref a_had_lengths], tl_ia (cy 1) a_had_lengths 1000 v_had_lengths, tl_ja (cy 2) a_had_words 2000 v_had_words] 0 0 (fun v w1 => v = none ∧ w1 = [tl_ob a_this 2 [.ref a_numbers, .ref a_kinds, .ref a_has, .ref a_had, .int (tl_I v_this_objects), .int (tl_I v_this_pairs)], tl_ob a_had 4 [.ref a_had_words, .ref a_had_lengths], tl_ia (cy 1) a_had_lengths 1000 z.1, tl_ja (cy 2) a_had_words 2000 z.2]) := by
  refine tl_ofW (cc := cX1_joinHad) (maxL := 4) (ret := none) (by decide +kernel) (Nat.le_of_ble_eq_true rfl) ?_
  intro p e s m below meth c hx hb hr hml hts hown hlocks hnm A hAe hA hP hK hD hS ls hl
  have hl : lv_has ls 4 [(0, .ref a_this), (1, .int (tl_I p1)), (2, .int (tl_I p2)), (3, .int (tl_I p3))] := hl
  unfold fX1_joinHad at hf
  refine lv_aload_n hx hb dX1_joinHad_0 rfl (lv_at hl 0 rfl) ?_
  refine va_get (ci := 2) (v := .ref a_had) (C := RX1) (T := TX1) (N := 6) hx hb hts in_X1 hown hK hP 0 rfl rfl 3 (by decide) (hts _ tw_252) (fun _ h9 => h9) rfl dX1_joinHad_1 ?_
  refine lv_iload_n hx hb dX1_joinHad_4 rfl (lv_at hl 1 rfl) ?_
  refine lv_iload_n hx hb dX1_joinHad_5 rfl (lv_at hl 3 rfl) ?_
  refine lv_iload_n hx hb dX1_joinHad_6 rfl (lv_at hl 2 rfl) ?_
  obtain ⟨z1, hz, hf⟩ := tl_bs hf
  refine tl_callV0 (As := [.int (tl_I p1), .int (tl_I p3), .int (tl_I p2)]) (rest := []) (wr := [tl_ob a_this 2 [.ref a_numbers, .ref a_kinds, .ref a_has, .ref a_had, .int (tl_I v_this_objects), .int (tl_I v_this_pairs)]]) ⟨hx, hb, hml, hown, hts⟩ (kt_X3_append l D cy a_had a_had_lengths a_had_words v_had_lengths v_had_words p1 p3 p2 z1 hz) (cwV 3 hts tg_X1_60 rfl rfl rfl td_X3_append ⟨by decide, by decide⟩) hK hP hD hS hA [1, 2, 3] [0] rfl rfl rfl rfl (by decide) 1 4 rfl rfl rfl rfl hl.1 rfl (Nat.le_of_ble_eq_true rfl) dX1_joinHad_7 ⟨by decide, by decide⟩ (fun v w1 H locs hp hP hD hS => ?_)
  obtain ⟨rfl, rfl⟩ := hp
  have hP : va_P D vwCl [tl_ob a_this 2 [.ref a_numbers, .ref a_kinds, .ref a_has, .ref a_had, .int (tl_I v_this_objects), .int (tl_I v_this_pairs)], tl_ob a_had 4 [.ref a_had_words, .ref a_had_lengths], tl_ia (cy 1) a_had_lengths 1000 z1.1, tl_ja (cy 2) a_had_words 2000 z1.2] H := hP
  have hD : va_D A [tl_ob a_this 2 [.ref a_numbers, .ref a_kinds, .ref a_has, .ref a_had, .int (tl_I v_this_objects), .int (tl_I v_this_pairs)], tl_ob a_had 4 [.ref a_had_words, .ref a_had_lengths], tl_ia (cy 1) a_had_lengths 1000 z1.1, tl_ja (cy 2) a_had_words 2000 z1.2] := hD
  refine W.eq (g2 := F0 m 10 ls []) rfl ?_
  injection hf with hf
  subst hf
  exact W.vret hx hb hr (fun t ht hW => tl_fin hAe ⟨rfl, rfl⟩ (hP.sub (ws' := [tl_ob a_this 2 [.ref a_numbers, .ref a_kinds, .ref a_has, .ref a_had, .int (tl_I v_this_objects), .int (tl_I v_this_pairs)], tl_ob a_had 4 [.ref a_had_words, .ref a_had_lengths], tl_ia (cy 1) a_had_lengths 1000 z1.1, tl_ja (cy 2) a_had_words 2000 z1.2]) [0, 1, 2, 3] rfl) hK (hD.sub (ws' := [tl_ob a_this 2 [.ref a_numbers, .ref a_kinds, .ref a_has, .ref a_had, .int (tl_I v_this_objects), .int (tl_I v_this_pairs)], tl_ob a_had 4 [.ref a_had_words, .ref a_had_lengths], tl_ia (cy 1) a_had_lengths 1000 z1.1, tl_ja (cy 2) a_had_words 2000 z1.2]) [0, 1, 2, 3] (by decide) rfl) hS ht hW) hS.2.2 dX1_joinHad_10
end
