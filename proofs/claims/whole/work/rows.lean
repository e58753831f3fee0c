section
-- ===== PART A: goes FIRST, ahead of the names: the tables' words, and 'selects' of the private methods out of them =====
/-- a private method of a class that the tables say can be made, by its rows of tables_1 -/
def lw_okq (q : MethodName × Nat) : Prop := (q.1.cls ≠ "java/lang/invoke/MethodHandle" ∧ q.1.cls ≠ "java/lang/invoke/VarHandle") ∧ Cond.instantiable q.1.cls q.2 ∈ tables_1 ∧ Cond.privateMethod q.1 ∈ tables_1 ∧ Cond.instanceMethod q.1 ∈ tables_1
theorem lw_p0 : lw_okq (⟨"SoldDays", "error", "(I)I"⟩, 8) := ⟨⟨by decide +kernel, by decide +kernel⟩, List.mem_of_getElem? (i := 17) (by decide +kernel), List.mem_of_getElem? (i := 299) (by decide +kernel), List.mem_of_getElem? (i := 300) (by decide +kernel)⟩
theorem lw_p1 : lw_okq (⟨"SoldDays$World", "dayCanPass", "(III)Z"⟩, 12) := ⟨⟨by decide +kernel, by decide +kernel⟩, List.mem_of_getElem? (i := 25) (by decide +kernel), List.mem_of_getElem? (i := 429) (by decide +kernel), List.mem_of_getElem? (i := 430) (by decide +kernel)⟩
theorem lw_p2 : lw_okq (⟨"SoldDays$World", "canPay", "(III)Z"⟩, 12) := ⟨⟨by decide +kernel, by decide +kernel⟩, List.mem_of_getElem? (i := 25) (by decide +kernel), List.mem_of_getElem? (i := 434) (by decide +kernel), List.mem_of_getElem? (i := 435) (by decide +kernel)⟩
theorem lw_p3 : lw_okq (⟨"SoldDays$Reader", "readLevel", "(II)V"⟩, 5) := ⟨⟨by decide +kernel, by decide +kernel⟩, List.mem_of_getElem? (i := 182) (by decide +kernel), List.mem_of_getElem? (i := 499) (by decide +kernel), List.mem_of_getElem? (i := 500) (by decide +kernel)⟩
theorem lw_p4 : lw_okq (⟨"SoldDays$Reader", "readQ", "(I)V"⟩, 5) := ⟨⟨by decide +kernel, by decide +kernel⟩, List.mem_of_getElem? (i := 182) (by decide +kernel), List.mem_of_getElem? (i := 503) (by decide +kernel), List.mem_of_getElem? (i := 504) (by decide +kernel)⟩
theorem lw_p5 : lw_okq (⟨"SoldDays$Reader", "nameHere", "()I"⟩, 5) := ⟨⟨by decide +kernel, by decide +kernel⟩, List.mem_of_getElem? (i := 182) (by decide +kernel), List.mem_of_getElem? (i := 507) (by decide +kernel), List.mem_of_getElem? (i := 508) (by decide +kernel)⟩
theorem lw_p6 : lw_okq (⟨"SoldDays$Reader", "here", "()I"⟩, 5) := ⟨⟨by decide +kernel, by decide +kernel⟩, List.mem_of_getElem? (i := 182) (by decide +kernel), List.mem_of_getElem? (i := 513) (by decide +kernel), List.mem_of_getElem? (i := 514) (by decide +kernel)⟩
theorem lw_p7 : lw_okq (⟨"SoldDays$Reader", "readNumber", "()V"⟩, 5) := ⟨⟨by decide +kernel, by decide +kernel⟩, List.mem_of_getElem? (i := 182) (by decide +kernel), List.mem_of_getElem? (i := 520) (by decide +kernel), List.mem_of_getElem? (i := 521) (by decide +kernel)⟩
theorem lw_p8 : lw_okq (⟨"SoldDays$Reader", "readClosing", "()V"⟩, 5) := ⟨⟨by decide +kernel, by decide +kernel⟩, List.mem_of_getElem? (i := 182) (by decide +kernel), List.mem_of_getElem? (i := 525) (by decide +kernel), List.mem_of_getElem? (i := 526) (by decide +kernel)⟩
theorem lw_p9 : lw_okq (⟨"SoldDays$Reader", "stopHere", "()V"⟩, 5) := ⟨⟨by decide +kernel, by decide +kernel⟩, List.mem_of_getElem? (i := 182) (by decide +kernel), List.mem_of_getElem? (i := 529) (by decide +kernel), List.mem_of_getElem? (i := 530) (by decide +kernel)⟩
theorem lw_p10 : lw_okq (⟨"SoldDays$World", "letOneLive", "(III)V"⟩, 12) := ⟨⟨by decide +kernel, by decide +kernel⟩, List.mem_of_getElem? (i := 25) (by decide +kernel), List.mem_of_getElem? (i := 561) (by decide +kernel), List.mem_of_getElem? (i := 562) (by decide +kernel)⟩
theorem lw_p11 : lw_okq (⟨"SoldDays$World", "settlePromises", "(I)V"⟩, 12) := ⟨⟨by decide +kernel, by decide +kernel⟩, List.mem_of_getElem? (i := 25) (by decide +kernel), List.mem_of_getElem? (i := 574) (by decide +kernel), List.mem_of_getElem? (i := 575) (by decide +kernel)⟩
theorem lw_p12 : lw_okq (⟨"SoldDays$World", "draw", "()I"⟩, 12) := ⟨⟨by decide +kernel, by decide +kernel⟩, List.mem_of_getElem? (i := 25) (by decide +kernel), List.mem_of_getElem? (i := 587) (by decide +kernel), List.mem_of_getElem? (i := 588) (by decide +kernel)⟩
theorem lw_p13 : lw_okq (⟨"SoldDays$Thoughts", "daysKeptBy", "(I)I"⟩, 3) := ⟨⟨by decide +kernel, by decide +kernel⟩, List.mem_of_getElem? (i := 207) (by decide +kernel), List.mem_of_getElem? (i := 636) (by decide +kernel), List.mem_of_getElem? (i := 637) (by decide +kernel)⟩
theorem lw_p14 : lw_okq (⟨"SoldDays$Thoughts", "leastOf", "(I)I"⟩, 3) := ⟨⟨by decide +kernel, by decide +kernel⟩, List.mem_of_getElem? (i := 207) (by decide +kernel), List.mem_of_getElem? (i := 652) (by decide +kernel), List.mem_of_getElem? (i := 653) (by decide +kernel)⟩
theorem lw_p15 : lw_okq (⟨"SoldDays$Thoughts", "isLess", "(II)Z"⟩, 3) := ⟨⟨by decide +kernel, by decide +kernel⟩, List.mem_of_getElem? (i := 207) (by decide +kernel), List.mem_of_getElem? (i := 656) (by decide +kernel), List.mem_of_getElem? (i := 657) (by decide +kernel)⟩
def lw_privs_1 : List (MethodName × Nat) := [(⟨"SoldDays", "error", "(I)I"⟩, 8), (⟨"SoldDays$World", "dayCanPass", "(III)Z"⟩, 12), (⟨"SoldDays$World", "canPay", "(III)Z"⟩, 12), (⟨"SoldDays$Reader", "readLevel", "(II)V"⟩, 5), (⟨"SoldDays$Reader", "readQ", "(I)V"⟩, 5), (⟨"SoldDays$Reader", "nameHere", "()I"⟩, 5), (⟨"SoldDays$Reader", "here", "()I"⟩, 5), (⟨"SoldDays$Reader", "readNumber", "()V"⟩, 5), (⟨"SoldDays$Reader", "readClosing", "()V"⟩, 5), (⟨"SoldDays$Reader", "stopHere", "()V"⟩, 5), (⟨"SoldDays$World", "letOneLive", "(III)V"⟩, 12), (⟨"SoldDays$World", "settlePromises", "(I)V"⟩, 12), (⟨"SoldDays$World", "draw", "()I"⟩, 12), (⟨"SoldDays$Thoughts", "daysKeptBy", "(I)I"⟩, 3), (⟨"SoldDays$Thoughts", "leastOf", "(I)I"⟩, 3), (⟨"SoldDays$Thoughts", "isLess", "(II)Z"⟩, 3)]
theorem lw_r1 : ∀ q ∈ lw_privs_1, lw_okq q := List.forall_mem_cons.mpr ⟨lw_p0, List.forall_mem_cons.mpr ⟨lw_p1, List.forall_mem_cons.mpr ⟨lw_p2, List.forall_mem_cons.mpr ⟨lw_p3, List.forall_mem_cons.mpr ⟨lw_p4, List.forall_mem_cons.mpr ⟨lw_p5, List.forall_mem_cons.mpr ⟨lw_p6, List.forall_mem_cons.mpr ⟨lw_p7, List.forall_mem_cons.mpr ⟨lw_p8, List.forall_mem_cons.mpr ⟨lw_p9, List.forall_mem_cons.mpr ⟨lw_p10, List.forall_mem_cons.mpr ⟨lw_p11, List.forall_mem_cons.mpr ⟨lw_p12, List.forall_mem_cons.mpr ⟨lw_p13, List.forall_mem_cons.mpr ⟨lw_p14, List.forall_mem_cons.mpr ⟨lw_p15, fun _ h => absurd h List.not_mem_nil⟩⟩⟩⟩⟩⟩⟩⟩⟩⟩⟩⟩⟩⟩⟩⟩
theorem lw_p16 : lw_okq (⟨"SoldDays", "livesAsTold", "(II)Z"⟩, 8) := ⟨⟨by decide +kernel, by decide +kernel⟩, List.mem_of_getElem? (i := 17) (by decide +kernel), List.mem_of_getElem? (i := 721) (by decide +kernel), List.mem_of_getElem? (i := 722) (by decide +kernel)⟩
theorem lw_p17 : lw_okq (⟨"SoldDays$Voices", "sound", "(IIII)I"⟩, 5) := ⟨⟨by decide +kernel, by decide +kernel⟩, List.mem_of_getElem? (i := 223) (by decide +kernel), List.mem_of_getElem? (i := 741) (by decide +kernel), List.mem_of_getElem? (i := 742) (by decide +kernel)⟩
theorem lw_p18 : lw_okq (⟨"SoldDays$Voices", "part", "(II)I"⟩, 5) := ⟨⟨by decide +kernel, by decide +kernel⟩, List.mem_of_getElem? (i := 223) (by decide +kernel), List.mem_of_getElem? (i := 757) (by decide +kernel), List.mem_of_getElem? (i := 758) (by decide +kernel)⟩
theorem lw_p19 : lw_okq (⟨"SoldDays$Voices", "partAndTrade", "(III)I"⟩, 5) := ⟨⟨by decide +kernel, by decide +kernel⟩, List.mem_of_getElem? (i := 223) (by decide +kernel), List.mem_of_getElem? (i := 761) (by decide +kernel), List.mem_of_getElem? (i := 762) (by decide +kernel)⟩
theorem lw_p20 : lw_okq (⟨"SoldDaysModel", "error", "(I)I"⟩, 24) := ⟨⟨by decide +kernel, by decide +kernel⟩, List.mem_of_getElem? (i := 846) (by decide +kernel), List.mem_of_getElem? (i := 936) (by decide +kernel), List.mem_of_getElem? (i := 937) (by decide +kernel)⟩
theorem lw_p21 : lw_okq (⟨"SoldDaysModel", "lay", "(III)V"⟩, 24) := ⟨⟨by decide +kernel, by decide +kernel⟩, List.mem_of_getElem? (i := 846) (by decide +kernel), List.mem_of_getElem? (i := 942) (by decide +kernel), List.mem_of_getElem? (i := 943) (by decide +kernel)⟩
theorem lw_p22 : lw_okq (⟨"SoldDaysModel", "isPerson", "(I)Z"⟩, 24) := ⟨⟨by decide +kernel, by decide +kernel⟩, List.mem_of_getElem? (i := 846) (by decide +kernel), List.mem_of_getElem? (i := 950) (by decide +kernel), List.mem_of_getElem? (i := 951) (by decide +kernel)⟩
theorem lw_p23 : lw_okq (⟨"SoldDaysModel", "of", "(II)I"⟩, 24) := ⟨⟨by decide +kernel, by decide +kernel⟩, List.mem_of_getElem? (i := 846) (by decide +kernel), List.mem_of_getElem? (i := 954) (by decide +kernel), List.mem_of_getElem? (i := 955) (by decide +kernel)⟩
theorem lw_p24 : lw_okq (⟨"SoldDaysModel", "livesOf", "(II)I"⟩, 24) := ⟨⟨by decide +kernel, by decide +kernel⟩, List.mem_of_getElem? (i := 846) (by decide +kernel), List.mem_of_getElem? (i := 958) (by decide +kernel), List.mem_of_getElem? (i := 959) (by decide +kernel)⟩
theorem lw_p25 : lw_okq (⟨"SoldDaysModel", "becomes", "(II)I"⟩, 24) := ⟨⟨by decide +kernel, by decide +kernel⟩, List.mem_of_getElem? (i := 846) (by decide +kernel), List.mem_of_getElem? (i := 966) (by decide +kernel), List.mem_of_getElem? (i := 967) (by decide +kernel)⟩
theorem lw_p26 : lw_okq (⟨"SoldDaysModel", "priceOf", "(II)I"⟩, 24) := ⟨⟨by decide +kernel, by decide +kernel⟩, List.mem_of_getElem? (i := 846) (by decide +kernel), List.mem_of_getElem? (i := 994) (by decide +kernel), List.mem_of_getElem? (i := 995) (by decide +kernel)⟩
theorem lw_p27 : lw_okq (⟨"SoldDaysModel", "gives", "(IIII)I"⟩, 24) := ⟨⟨by decide +kernel, by decide +kernel⟩, List.mem_of_getElem? (i := 846) (by decide +kernel), List.mem_of_getElem? (i := 998) (by decide +kernel), List.mem_of_getElem? (i := 999) (by decide +kernel)⟩
theorem lw_p28 : lw_okq (⟨"SoldDaysModel", "works", "(I)I"⟩, 24) := ⟨⟨by decide +kernel, by decide +kernel⟩, List.mem_of_getElem? (i := 846) (by decide +kernel), List.mem_of_getElem? (i := 1002) (by decide +kernel), List.mem_of_getElem? (i := 1003) (by decide +kernel)⟩
theorem lw_p29 : lw_okq (⟨"SoldDaysModel", "areTwo", "(II)Z"⟩, 24) := ⟨⟨by decide +kernel, by decide +kernel⟩, List.mem_of_getElem? (i := 846) (by decide +kernel), List.mem_of_getElem? (i := 1016) (by decide +kernel), List.mem_of_getElem? (i := 1017) (by decide +kernel)⟩
theorem lw_p30 : lw_okq (⟨"SoldDaysModel", "canSell", "(III)Z"⟩, 24) := ⟨⟨by decide +kernel, by decide +kernel⟩, List.mem_of_getElem? (i := 846) (by decide +kernel), List.mem_of_getElem? (i := 1020) (by decide +kernel), List.mem_of_getElem? (i := 1021) (by decide +kernel)⟩
theorem lw_p31 : lw_okq (⟨"SoldDaysModel", "sells", "(III)I"⟩, 24) := ⟨⟨by decide +kernel, by decide +kernel⟩, List.mem_of_getElem? (i := 846) (by decide +kernel), List.mem_of_getElem? (i := 1024) (by decide +kernel), List.mem_of_getElem? (i := 1025) (by decide +kernel)⟩
def lw_privs_2 : List (MethodName × Nat) := [(⟨"SoldDays", "livesAsTold", "(II)Z"⟩, 8), (⟨"SoldDays$Voices", "sound", "(IIII)I"⟩, 5), (⟨"SoldDays$Voices", "part", "(II)I"⟩, 5), (⟨"SoldDays$Voices", "partAndTrade", "(III)I"⟩, 5), (⟨"SoldDaysModel", "error", "(I)I"⟩, 24), (⟨"SoldDaysModel", "lay", "(III)V"⟩, 24), (⟨"SoldDaysModel", "isPerson", "(I)Z"⟩, 24), (⟨"SoldDaysModel", "of", "(II)I"⟩, 24), (⟨"SoldDaysModel", "livesOf", "(II)I"⟩, 24), (⟨"SoldDaysModel", "becomes", "(II)I"⟩, 24), (⟨"SoldDaysModel", "priceOf", "(II)I"⟩, 24), (⟨"SoldDaysModel", "gives", "(IIII)I"⟩, 24), (⟨"SoldDaysModel", "works", "(I)I"⟩, 24), (⟨"SoldDaysModel", "areTwo", "(II)Z"⟩, 24), (⟨"SoldDaysModel", "canSell", "(III)Z"⟩, 24), (⟨"SoldDaysModel", "sells", "(III)I"⟩, 24)]
theorem lw_r2 : ∀ q ∈ lw_privs_2, lw_okq q := List.forall_mem_cons.mpr ⟨lw_p16, List.forall_mem_cons.mpr ⟨lw_p17, List.forall_mem_cons.mpr ⟨lw_p18, List.forall_mem_cons.mpr ⟨lw_p19, List.forall_mem_cons.mpr ⟨lw_p20, List.forall_mem_cons.mpr ⟨lw_p21, List.forall_mem_cons.mpr ⟨lw_p22, List.forall_mem_cons.mpr ⟨lw_p23, List.forall_mem_cons.mpr ⟨lw_p24, List.forall_mem_cons.mpr ⟨lw_p25, List.forall_mem_cons.mpr ⟨lw_p26, List.forall_mem_cons.mpr ⟨lw_p27, List.forall_mem_cons.mpr ⟨lw_p28, List.forall_mem_cons.mpr ⟨lw_p29, List.forall_mem_cons.mpr ⟨lw_p30, List.forall_mem_cons.mpr ⟨lw_p31, fun _ h => absurd h List.not_mem_nil⟩⟩⟩⟩⟩⟩⟩⟩⟩⟩⟩⟩⟩⟩⟩⟩
theorem lw_p32 : lw_okq (⟨"SoldDaysModel", "thinks", "()V"⟩, 24) := ⟨⟨by decide +kernel, by decide +kernel⟩, List.mem_of_getElem? (i := 846) (by decide +kernel), List.mem_of_getElem? (i := 1033) (by decide +kernel), List.mem_of_getElem? (i := 1034) (by decide +kernel)⟩
theorem lw_p33 : lw_okq (⟨"SoldDaysModel", "putsBack", "()V"⟩, 24) := ⟨⟨by decide +kernel, by decide +kernel⟩, List.mem_of_getElem? (i := 846) (by decide +kernel), List.mem_of_getElem? (i := 1040) (by decide +kernel), List.mem_of_getElem? (i := 1041) (by decide +kernel)⟩
theorem lw_p34 : lw_okq (⟨"SoldDaysModel", "said", "(II)I"⟩, 24) := ⟨⟨by decide +kernel, by decide +kernel⟩, List.mem_of_getElem? (i := 846) (by decide +kernel), List.mem_of_getElem? (i := 1052) (by decide +kernel), List.mem_of_getElem? (i := 1053) (by decide +kernel)⟩
theorem lw_p35 : lw_okq (⟨"SoldDaysModel", "isKept", "(I)Z"⟩, 24) := ⟨⟨by decide +kernel, by decide +kernel⟩, List.mem_of_getElem? (i := 846) (by decide +kernel), List.mem_of_getElem? (i := 1056) (by decide +kernel), List.mem_of_getElem? (i := 1057) (by decide +kernel)⟩
theorem lw_p36 : lw_okq (⟨"SoldDaysModel", "isUp", "(II)Z"⟩, 24) := ⟨⟨by decide +kernel, by decide +kernel⟩, List.mem_of_getElem? (i := 846) (by decide +kernel), List.mem_of_getElem? (i := 1060) (by decide +kernel), List.mem_of_getElem? (i := 1061) (by decide +kernel)⟩
theorem lw_p37 : lw_okq (⟨"SoldDaysModel", "any", "()V"⟩, 24) := ⟨⟨by decide +kernel, by decide +kernel⟩, List.mem_of_getElem? (i := 846) (by decide +kernel), List.mem_of_getElem? (i := 1073) (by decide +kernel), List.mem_of_getElem? (i := 1074) (by decide +kernel)⟩
theorem lw_p38 : lw_okq (⟨"SoldDaysModel", "all", "()V"⟩, 24) := ⟨⟨by decide +kernel, by decide +kernel⟩, List.mem_of_getElem? (i := 846) (by decide +kernel), List.mem_of_getElem? (i := 1077) (by decide +kernel), List.mem_of_getElem? (i := 1078) (by decide +kernel)⟩
theorem lw_p39 : lw_okq (⟨"SoldDaysModel", "compares", "()V"⟩, 24) := ⟨⟨by decide +kernel, by decide +kernel⟩, List.mem_of_getElem? (i := 846) (by decide +kernel), List.mem_of_getElem? (i := 1081) (by decide +kernel), List.mem_of_getElem? (i := 1082) (by decide +kernel)⟩
theorem lw_p40 : lw_okq (⟨"SoldDaysModel", "sum", "()V"⟩, 24) := ⟨⟨by decide +kernel, by decide +kernel⟩, List.mem_of_getElem? (i := 846) (by decide +kernel), List.mem_of_getElem? (i := 1085) (by decide +kernel), List.mem_of_getElem? (i := 1086) (by decide +kernel)⟩
theorem lw_p41 : lw_okq (⟨"SoldDaysModel", "times", "()V"⟩, 24) := ⟨⟨by decide +kernel, by decide +kernel⟩, List.mem_of_getElem? (i := 846) (by decide +kernel), List.mem_of_getElem? (i := 1089) (by decide +kernel), List.mem_of_getElem? (i := 1090) (by decide +kernel)⟩
theorem lw_p42 : lw_okq (⟨"SoldDaysModel", "one", "()V"⟩, 24) := ⟨⟨by decide +kernel, by decide +kernel⟩, List.mem_of_getElem? (i := 846) (by decide +kernel), List.mem_of_getElem? (i := 1093) (by decide +kernel), List.mem_of_getElem? (i := 1094) (by decide +kernel)⟩
theorem lw_p43 : lw_okq (⟨"SoldDaysModel", "look", "()I"⟩, 24) := ⟨⟨by decide +kernel, by decide +kernel⟩, List.mem_of_getElem? (i := 846) (by decide +kernel), List.mem_of_getElem? (i := 1097) (by decide +kernel), List.mem_of_getElem? (i := 1098) (by decide +kernel)⟩
theorem lw_p44 : lw_okq (⟨"SoldDaysModel", "nameOf", "(I)I"⟩, 24) := ⟨⟨by decide +kernel, by decide +kernel⟩, List.mem_of_getElem? (i := 846) (by decide +kernel), List.mem_of_getElem? (i := 1101) (by decide +kernel), List.mem_of_getElem? (i := 1102) (by decide +kernel)⟩
theorem lw_p45 : lw_okq (⟨"SoldDaysModel", "step", "(II)V"⟩, 24) := ⟨⟨by decide +kernel, by decide +kernel⟩, List.mem_of_getElem? (i := 846) (by decide +kernel), List.mem_of_getElem? (i := 1105) (by decide +kernel), List.mem_of_getElem? (i := 1106) (by decide +kernel)⟩
theorem lw_p46 : lw_okq (⟨"SoldDaysModel", "opens", "(I)V"⟩, 24) := ⟨⟨by decide +kernel, by decide +kernel⟩, List.mem_of_getElem? (i := 846) (by decide +kernel), List.mem_of_getElem? (i := 1109) (by decide +kernel), List.mem_of_getElem? (i := 1110) (by decide +kernel)⟩
theorem lw_p47 : lw_okq (⟨"SoldDaysModel", "number", "()V"⟩, 24) := ⟨⟨by decide +kernel, by decide +kernel⟩, List.mem_of_getElem? (i := 846) (by decide +kernel), List.mem_of_getElem? (i := 1113) (by decide +kernel), List.mem_of_getElem? (i := 1114) (by decide +kernel)⟩
def lw_privs_3 : List (MethodName × Nat) := [(⟨"SoldDaysModel", "thinks", "()V"⟩, 24), (⟨"SoldDaysModel", "putsBack", "()V"⟩, 24), (⟨"SoldDaysModel", "said", "(II)I"⟩, 24), (⟨"SoldDaysModel", "isKept", "(I)Z"⟩, 24), (⟨"SoldDaysModel", "isUp", "(II)Z"⟩, 24), (⟨"SoldDaysModel", "any", "()V"⟩, 24), (⟨"SoldDaysModel", "all", "()V"⟩, 24), (⟨"SoldDaysModel", "compares", "()V"⟩, 24), (⟨"SoldDaysModel", "sum", "()V"⟩, 24), (⟨"SoldDaysModel", "times", "()V"⟩, 24), (⟨"SoldDaysModel", "one", "()V"⟩, 24), (⟨"SoldDaysModel", "look", "()I"⟩, 24), (⟨"SoldDaysModel", "nameOf", "(I)I"⟩, 24), (⟨"SoldDaysModel", "step", "(II)V"⟩, 24), (⟨"SoldDaysModel", "opens", "(I)V"⟩, 24), (⟨"SoldDaysModel", "number", "()V"⟩, 24)]
theorem lw_r3 : ∀ q ∈ lw_privs_3, lw_okq q := List.forall_mem_cons.mpr ⟨lw_p32, List.forall_mem_cons.mpr ⟨lw_p33, List.forall_mem_cons.mpr ⟨lw_p34, List.forall_mem_cons.mpr ⟨lw_p35, List.forall_mem_cons.mpr ⟨lw_p36, List.forall_mem_cons.mpr ⟨lw_p37, List.forall_mem_cons.mpr ⟨lw_p38, List.forall_mem_cons.mpr ⟨lw_p39, List.forall_mem_cons.mpr ⟨lw_p40, List.forall_mem_cons.mpr ⟨lw_p41, List.forall_mem_cons.mpr ⟨lw_p42, List.forall_mem_cons.mpr ⟨lw_p43, List.forall_mem_cons.mpr ⟨lw_p44, List.forall_mem_cons.mpr ⟨lw_p45, List.forall_mem_cons.mpr ⟨lw_p46, List.forall_mem_cons.mpr ⟨lw_p47, fun _ h => absurd h List.not_mem_nil⟩⟩⟩⟩⟩⟩⟩⟩⟩⟩⟩⟩⟩⟩⟩⟩
theorem lw_p48 : lw_okq (⟨"SoldDaysModel", "goes", "()I"⟩, 24) := ⟨⟨by decide +kernel, by decide +kernel⟩, List.mem_of_getElem? (i := 846) (by decide +kernel), List.mem_of_getElem? (i := 1129) (by decide +kernel), List.mem_of_getElem? (i := 1130) (by decide +kernel)⟩
theorem lw_p49 : lw_okq (⟨"SoldDaysModel", "manyUp", "(I)I"⟩, 24) := ⟨⟨by decide +kernel, by decide +kernel⟩, List.mem_of_getElem? (i := 846) (by decide +kernel), List.mem_of_getElem? (i := 1133) (by decide +kernel), List.mem_of_getElem? (i := 1134) (by decide +kernel)⟩
theorem lw_p50 : lw_okq (⟨"SoldDaysModel", "lives", "(II)V"⟩, 24) := ⟨⟨by decide +kernel, by decide +kernel⟩, List.mem_of_getElem? (i := 846) (by decide +kernel), List.mem_of_getElem? (i := 1137) (by decide +kernel), List.mem_of_getElem? (i := 1138) (by decide +kernel)⟩
theorem lw_p51 : lw_okq (⟨"SoldDaysModel", "counts", "(I)V"⟩, 24) := ⟨⟨by decide +kernel, by decide +kernel⟩, List.mem_of_getElem? (i := 846) (by decide +kernel), List.mem_of_getElem? (i := 1141) (by decide +kernel), List.mem_of_getElem? (i := 1142) (by decide +kernel)⟩
theorem lw_p52 : lw_okq (⟨"SoldDaysModel", "drawn", "()I"⟩, 24) := ⟨⟨by decide +kernel, by decide +kernel⟩, List.mem_of_getElem? (i := 846) (by decide +kernel), List.mem_of_getElem? (i := 1149) (by decide +kernel), List.mem_of_getElem? (i := 1150) (by decide +kernel)⟩
theorem lw_p53 : lw_okq (⟨"SoldDaysModel", "draw", "()I"⟩, 24) := ⟨⟨by decide +kernel, by decide +kernel⟩, List.mem_of_getElem? (i := 846) (by decide +kernel), List.mem_of_getElem? (i := 1153) (by decide +kernel), List.mem_of_getElem? (i := 1154) (by decide +kernel)⟩
theorem lw_p54 : lw_okq (⟨"SoldDaysModel", "doKeep", "(I)Z"⟩, 24) := ⟨⟨by decide +kernel, by decide +kernel⟩, List.mem_of_getElem? (i := 846) (by decide +kernel), List.mem_of_getElem? (i := 1182) (by decide +kernel), List.mem_of_getElem? (i := 1183) (by decide +kernel)⟩
theorem lw_p55 : lw_okq (⟨"SoldDaysModel", "costing", "(III)I"⟩, 24) := ⟨⟨by decide +kernel, by decide +kernel⟩, List.mem_of_getElem? (i := 846) (by decide +kernel), List.mem_of_getElem? (i := 1190) (by decide +kernel), List.mem_of_getElem? (i := 1191) (by decide +kernel)⟩
theorem lw_p56 : lw_okq (⟨"SoldDaysModel", "takes", "(IIIII)V"⟩, 24) := ⟨⟨by decide +kernel, by decide +kernel⟩, List.mem_of_getElem? (i := 846) (by decide +kernel), List.mem_of_getElem? (i := 1198) (by decide +kernel), List.mem_of_getElem? (i := 1199) (by decide +kernel)⟩
theorem lw_p57 : lw_okq (⟨"SoldDaysModel", "notKept", "()I"⟩, 24) := ⟨⟨by decide +kernel, by decide +kernel⟩, List.mem_of_getElem? (i := 846) (by decide +kernel), List.mem_of_getElem? (i := 1202) (by decide +kernel), List.mem_of_getElem? (i := 1203) (by decide +kernel)⟩
theorem lw_p58 : lw_okq (⟨"SoldDaysModel", "notThere", "(I)I"⟩, 24) := ⟨⟨by decide +kernel, by decide +kernel⟩, List.mem_of_getElem? (i := 846) (by decide +kernel), List.mem_of_getElem? (i := 1214) (by decide +kernel), List.mem_of_getElem? (i := 1215) (by decide +kernel)⟩
theorem lw_p59 : lw_okq (⟨"SoldDaysModel", "yawns", "(II)I"⟩, 24) := ⟨⟨by decide +kernel, by decide +kernel⟩, List.mem_of_getElem? (i := 846) (by decide +kernel), List.mem_of_getElem? (i := 1225) (by decide +kernel), List.mem_of_getElem? (i := 1226) (by decide +kernel)⟩
theorem lw_p60 : lw_okq (⟨"SoldDaysModel", "studentYawns", "(II)I"⟩, 24) := ⟨⟨by decide +kernel, by decide +kernel⟩, List.mem_of_getElem? (i := 846) (by decide +kernel), List.mem_of_getElem? (i := 1229) (by decide +kernel), List.mem_of_getElem? (i := 1230) (by decide +kernel)⟩
theorem lw_p61 : lw_okq (⟨"SoldDaysModel", "begins", "(I)V"⟩, 24) := ⟨⟨by decide +kernel, by decide +kernel⟩, List.mem_of_getElem? (i := 846) (by decide +kernel), List.mem_of_getElem? (i := 1233) (by decide +kernel), List.mem_of_getElem? (i := 1234) (by decide +kernel)⟩
theorem lw_p62 : lw_okq (⟨"SoldDaysModel", "plainYawns", "(II)I"⟩, 24) := ⟨⟨by decide +kernel, by decide +kernel⟩, List.mem_of_getElem? (i := 846) (by decide +kernel), List.mem_of_getElem? (i := 1237) (by decide +kernel), List.mem_of_getElem? (i := 1238) (by decide +kernel)⟩
theorem lw_p63 : lw_okq (⟨"SoldDaysModel", "trades", "(II)I"⟩, 24) := ⟨⟨by decide +kernel, by decide +kernel⟩, List.mem_of_getElem? (i := 846) (by decide +kernel), List.mem_of_getElem? (i := 1241) (by decide +kernel), List.mem_of_getElem? (i := 1242) (by decide +kernel)⟩
def lw_privs_4 : List (MethodName × Nat) := [(⟨"SoldDaysModel", "goes", "()I"⟩, 24), (⟨"SoldDaysModel", "manyUp", "(I)I"⟩, 24), (⟨"SoldDaysModel", "lives", "(II)V"⟩, 24), (⟨"SoldDaysModel", "counts", "(I)V"⟩, 24), (⟨"SoldDaysModel", "drawn", "()I"⟩, 24), (⟨"SoldDaysModel", "draw", "()I"⟩, 24), (⟨"SoldDaysModel", "doKeep", "(I)Z"⟩, 24), (⟨"SoldDaysModel", "costing", "(III)I"⟩, 24), (⟨"SoldDaysModel", "takes", "(IIIII)V"⟩, 24), (⟨"SoldDaysModel", "notKept", "()I"⟩, 24), (⟨"SoldDaysModel", "notThere", "(I)I"⟩, 24), (⟨"SoldDaysModel", "yawns", "(II)I"⟩, 24), (⟨"SoldDaysModel", "studentYawns", "(II)I"⟩, 24), (⟨"SoldDaysModel", "begins", "(I)V"⟩, 24), (⟨"SoldDaysModel", "plainYawns", "(II)I"⟩, 24), (⟨"SoldDaysModel", "trades", "(II)I"⟩, 24)]
theorem lw_r4 : ∀ q ∈ lw_privs_4, lw_okq q := List.forall_mem_cons.mpr ⟨lw_p48, List.forall_mem_cons.mpr ⟨lw_p49, List.forall_mem_cons.mpr ⟨lw_p50, List.forall_mem_cons.mpr ⟨lw_p51, List.forall_mem_cons.mpr ⟨lw_p52, List.forall_mem_cons.mpr ⟨lw_p53, List.forall_mem_cons.mpr ⟨lw_p54, List.forall_mem_cons.mpr ⟨lw_p55, List.forall_mem_cons.mpr ⟨lw_p56, List.forall_mem_cons.mpr ⟨lw_p57, List.forall_mem_cons.mpr ⟨lw_p58, List.forall_mem_cons.mpr ⟨lw_p59, List.forall_mem_cons.mpr ⟨lw_p60, List.forall_mem_cons.mpr ⟨lw_p61, List.forall_mem_cons.mpr ⟨lw_p62, List.forall_mem_cons.mpr ⟨lw_p63, fun _ h => absurd h List.not_mem_nil⟩⟩⟩⟩⟩⟩⟩⟩⟩⟩⟩⟩⟩⟩⟩⟩
theorem lw_p64 : lw_okq (⟨"SoldDaysModel", "widowTrades", "(II)I"⟩, 24) := ⟨⟨by decide +kernel, by decide +kernel⟩, List.mem_of_getElem? (i := 846) (by decide +kernel), List.mem_of_getElem? (i := 1245) (by decide +kernel), List.mem_of_getElem? (i := 1246) (by decide +kernel)⟩
theorem lw_p65 : lw_okq (⟨"SoldDaysModel", "plainTrades", "(II)I"⟩, 24) := ⟨⟨by decide +kernel, by decide +kernel⟩, List.mem_of_getElem? (i := 846) (by decide +kernel), List.mem_of_getElem? (i := 1249) (by decide +kernel), List.mem_of_getElem? (i := 1250) (by decide +kernel)⟩
theorem lw_p66 : lw_okq (⟨"SoldDaysModel", "ages", "(II)I"⟩, 24) := ⟨⟨by decide +kernel, by decide +kernel⟩, List.mem_of_getElem? (i := 846) (by decide +kernel), List.mem_of_getElem? (i := 1253) (by decide +kernel), List.mem_of_getElem? (i := 1254) (by decide +kernel)⟩
theorem lw_p67 : lw_okq (⟨"SoldDaysModel", "plainAges", "(II)I"⟩, 24) := ⟨⟨by decide +kernel, by decide +kernel⟩, List.mem_of_getElem? (i := 846) (by decide +kernel), List.mem_of_getElem? (i := 1257) (by decide +kernel), List.mem_of_getElem? (i := 1258) (by decide +kernel)⟩
theorem lw_p68 : lw_okq (⟨"SoldDaysModel", "parts", "(II)I"⟩, 24) := ⟨⟨by decide +kernel, by decide +kernel⟩, List.mem_of_getElem? (i := 846) (by decide +kernel), List.mem_of_getElem? (i := 1261) (by decide +kernel), List.mem_of_getElem? (i := 1262) (by decide +kernel)⟩
theorem lw_p69 : lw_okq (⟨"SoldDaysModel", "plainParts", "(II)I"⟩, 24) := ⟨⟨by decide +kernel, by decide +kernel⟩, List.mem_of_getElem? (i := 846) (by decide +kernel), List.mem_of_getElem? (i := 1265) (by decide +kernel), List.mem_of_getElem? (i := 1266) (by decide +kernel)⟩
theorem lw_p70 : lw_okq (⟨"SoldDaysModel", "notMoved", "(IIIII)I"⟩, 24) := ⟨⟨by decide +kernel, by decide +kernel⟩, List.mem_of_getElem? (i := 846) (by decide +kernel), List.mem_of_getElem? (i := 1286) (by decide +kernel), List.mem_of_getElem? (i := 1287) (by decide +kernel)⟩
def lw_privs_5 : List (MethodName × Nat) := [(⟨"SoldDaysModel", "widowTrades", "(II)I"⟩, 24), (⟨"SoldDaysModel", "plainTrades", "(II)I"⟩, 24), (⟨"SoldDaysModel", "ages", "(II)I"⟩, 24), (⟨"SoldDaysModel", "plainAges", "(II)I"⟩, 24), (⟨"SoldDaysModel", "parts", "(II)I"⟩, 24), (⟨"SoldDaysModel", "plainParts", "(II)I"⟩, 24), (⟨"SoldDaysModel", "notMoved", "(IIIII)I"⟩, 24)]
theorem lw_r5 : ∀ q ∈ lw_privs_5, lw_okq q := List.forall_mem_cons.mpr ⟨lw_p64, List.forall_mem_cons.mpr ⟨lw_p65, List.forall_mem_cons.mpr ⟨lw_p66, List.forall_mem_cons.mpr ⟨lw_p67, List.forall_mem_cons.mpr ⟨lw_p68, List.forall_mem_cons.mpr ⟨lw_p69, List.forall_mem_cons.mpr ⟨lw_p70, fun _ h => absurd h List.not_mem_nil⟩⟩⟩⟩⟩⟩⟩
def lw_privs : List (MethodName × Nat) := lw_privs_1 ++ (lw_privs_2 ++ (lw_privs_3 ++ (lw_privs_4 ++ (lw_privs_5))))
def lw_tbl : List Cond := k2_sels lw_privs ++ tables_1
theorem lw_privs_ok : ∀ q ∈ lw_privs, lw_okq q := by
  show ∀ q ∈ lw_privs_1 ++ (lw_privs_2 ++ (lw_privs_3 ++ (lw_privs_4 ++ (lw_privs_5)))), lw_okq q
  exact List.forall_mem_append.mpr ⟨lw_r1, List.forall_mem_append.mpr ⟨lw_r2, List.forall_mem_append.mpr ⟨lw_r3, List.forall_mem_append.mpr ⟨lw_r4, lw_r5⟩⟩⟩⟩

def RX0 : String := "SoldDays$Kinds"
def TX0 : u_T := fun k => match k with
  | _ => ("", "", "", false)
def tyX0 : Nat → FieldType := fun k => match k with
  | _ => .int
abbrev wsX00 : List Cond := u_ws RX0 TX0 0
theorem nmX0 : ∀ a, a < 0 → ∀ b, b < 0 → a ≠ b → (TX0 a).2.1 ≠ (TX0 b).2.1 := by decide +kernel
theorem tyX0_ok : ∀ k, k < 0 → parseFieldDescriptor (TX0 k).2.2.1 = some (tyX0 k) := by decide +kernel
abbrev cX0_isKind : ByteArray := prog_2_method_2_code
def yX0_isKind : MethodName := ⟨RX0, "isKind", "(I)Z"⟩
abbrev cX0_isKindAndNumber : ByteArray := prog_2_method_3_code
def yX0_isKindAndNumber : MethodName := ⟨RX0, "isKindAndNumber", "(I)Z"⟩
abbrev cX0_above : ByteArray := prog_2_method_4_code
def yX0_above : MethodName := ⟨RX0, "above", "(I)I"⟩
abbrev cX0_isUnder : ByteArray := prog_2_method_5_code
def yX0_isUnder : MethodName := ⟨RX0, "isUnder", "(II)Z"⟩
abbrev cX0_speaker : ByteArray := prog_2_method_6_code
def yX0_speaker : MethodName := ⟨RX0, "speaker", "(II)I"⟩
abbrev cX0_bodyOf : ByteArray := prog_2_method_7_code
def yX0_bodyOf : MethodName := ⟨RX0, "bodyOf", "(II)I"⟩
abbrev cX0_lives : ByteArray := prog_2_method_8_code
def yX0_lives : MethodName := ⟨RX0, "lives", "(IIII)I"⟩
def RX1 : String := "SoldDays$People"
def TX1 : u_T := fun k => match k with
  | 0 => ("SoldDays$People", "kinds", "[I", true)
  | 1 => ("SoldDays$People", "numbers", "[I", true)
  | 2 => ("SoldDays$People", "ages", "[I", true)
  | 3 => ("SoldDays$People", "moneys", "[I", true)
  | 4 => ("SoldDays$People", "times", "[I", true)
  | _ => ("SoldDays$People", "size", "I", false)
def tyX1 : Nat → FieldType := fun k => match k with
  | 0 => .array .int
  | 1 => .array .int
  | 2 => .array .int
  | 3 => .array .int
  | 4 => .array .int
  | _ => .int
abbrev wsX10 : List Cond := u_ws RX1 TX1 6
theorem nmX1 : ∀ a, a < 6 → ∀ b, b < 6 → a ≠ b → (TX1 a).2.1 ≠ (TX1 b).2.1 := by decide +kernel
theorem tyX1_ok : ∀ k, k < 6 → parseFieldDescriptor (TX1 k).2.2.1 = some (tyX1 k) := by decide +kernel
abbrev cX1_init : ByteArray := prog_3_method_1_code
def yX1_init : MethodName := ⟨RX1, "<init>", "()V"⟩
abbrev cX1_knows : ByteArray := prog_3_method_2_code
def yX1_knows : MethodName := ⟨RX1, "knows", "(I)Z"⟩
abbrev cX1_areTwo : ByteArray := prog_3_method_3_code
def yX1_areTwo : MethodName := ⟨RX1, "areTwo", "(II)Z"⟩
abbrev cX1_join : ByteArray := prog_3_method_4_code
def yX1_join : MethodName := ⟨RX1, "join", "(I)I"⟩
abbrev cX1_setKind : ByteArray := prog_3_method_5_code
def yX1_setKind : MethodName := ⟨RX1, "setKind", "(II)V"⟩
abbrev cX1_timesOf : ByteArray := prog_3_method_6_code
def yX1_timesOf : MethodName := ⟨RX1, "timesOf", "(II)I"⟩
abbrev cX1_setTimes : ByteArray := prog_3_method_7_code
def yX1_setTimes : MethodName := ⟨RX1, "setTimes", "(III)V"⟩
abbrev cX1_livesOf : ByteArray := prog_3_method_8_code
def yX1_livesOf : MethodName := ⟨RX1, "livesOf", "(II)I"⟩
abbrev cX1_isUpIfHad : ByteArray := prog_3_method_9_code
def yX1_isUpIfHad : MethodName := ⟨RX1, "isUpIfHad", "(III)Z"⟩
abbrev cX1_isUp : ByteArray := prog_3_method_10_code
def yX1_isUp : MethodName := ⟨RX1, "isUp", "(II)Z"⟩
abbrev cX1_howManyUp : ByteArray := prog_3_method_11_code
def yX1_howManyUp : MethodName := ⟨RX1, "howManyUp", "(I)I"⟩
abbrev cX1_upDays : ByteArray := prog_3_method_12_code
def yX1_upDays : MethodName := ⟨RX1, "upDays", "(I)I"⟩
abbrev cX1_howManyDays : ByteArray := prog_3_method_13_code
def yX1_howManyDays : MethodName := ⟨RX1, "howManyDays", "(I)I"⟩
abbrev cX1_copyFrom : ByteArray := prog_3_method_14_code
def yX1_copyFrom : MethodName := ⟨RX1, "copyFrom", "(LSoldDays$People;)V"⟩
def RX2 : String := "SoldDays$Promises"
def TX2 : u_T := fun k => match k with
  | 0 => ("SoldDays$Promises", "givers", "[I", true)
  | 1 => ("SoldDays$Promises", "takers", "[I", true)
  | 2 => ("SoldDays$Promises", "dates", "[I", true)
  | _ => ("SoldDays$Promises", "size", "I", false)
def tyX2 : Nat → FieldType := fun k => match k with
  | 0 => .array .int
  | 1 => .array .int
  | 2 => .array .int
  | _ => .int
abbrev wsX20 : List Cond := u_ws RX2 TX2 4
theorem nmX2 : ∀ a, a < 4 → ∀ b, b < 4 → a ≠ b → (TX2 a).2.1 ≠ (TX2 b).2.1 := by decide +kernel
theorem tyX2_ok : ∀ k, k < 4 → parseFieldDescriptor (TX2 k).2.2.1 = some (tyX2 k) := by decide +kernel
abbrev cX2_init : ByteArray := prog_4_method_1_code
def yX2_init : MethodName := ⟨RX2, "<init>", "()V"⟩
abbrev cX2_join : ByteArray := prog_4_method_2_code
def yX2_join : MethodName := ⟨RX2, "join", "(III)I"⟩
abbrev cX2_isOf : ByteArray := prog_4_method_3_code
def yX2_isOf : MethodName := ⟨RX2, "isOf", "(II)Z"⟩
abbrev cX2_isKept : ByteArray := prog_4_method_4_code
def yX2_isKept : MethodName := ⟨RX2, "isKept", "(ILSoldDays$People;)Z"⟩
abbrev cX2_howManyUnkept : ByteArray := prog_4_method_5_code
def yX2_howManyUnkept : MethodName := ⟨RX2, "howManyUnkept", "(LSoldDays$People;)I"⟩
abbrev cX2_copyFrom : ByteArray := prog_4_method_6_code
def yX2_copyFrom : MethodName := ⟨RX2, "copyFrom", "(LSoldDays$Promises;)V"⟩
def RX3 : String := "SoldDays$Reader"
def TX3 : u_T := fun k => match k with
  | 0 => ("SoldDays$Reader", "steps", "LSoldDays$Row;", true)
  | 1 => ("SoldDays$Reader", "tape", "LSoldDays$Row;", true)
  | 2 => ("SoldDays$Reader", "use", "I", false)
  | 3 => ("SoldDays$Reader", "place", "I", false)
  | _ => ("SoldDays$Reader", "fault", "I", false)
def tyX3 : Nat → FieldType := fun k => match k with
  | 0 => .object "SoldDays$Row"
  | 1 => .object "SoldDays$Row"
  | 2 => .int
  | 3 => .int
  | _ => .int
abbrev wsX30 : List Cond := u_ws RX3 TX3 5
theorem nmX3 : ∀ a, a < 5 → ∀ b, b < 5 → a ≠ b → (TX3 a).2.1 ≠ (TX3 b).2.1 := by decide +kernel
theorem tyX3_ok : ∀ k, k < 5 → parseFieldDescriptor (TX3 k).2.2.1 = some (tyX3 k) := by decide +kernel
abbrev cX3_init : ByteArray := prog_5_method_1_code
def yX3_init : MethodName := ⟨RX3, "<init>", "()V"⟩
abbrev cX3_faultOf : ByteArray := prog_5_method_2_code
def yX3_faultOf : MethodName := ⟨RX3, "faultOf", "(LSoldDays$Row;I)I"⟩
abbrev cX3_readLevel : ByteArray := prog_5_method_3_code
def yX3_readLevel : MethodName := ⟨RX3, "readLevel", "(II)V"⟩
abbrev cX3_readQ : ByteArray := prog_5_method_4_code
def yX3_readQ : MethodName := ⟨RX3, "readQ", "(I)V"⟩
abbrev cX3_readNumber : ByteArray := prog_5_method_5_code
def yX3_readNumber : MethodName := ⟨RX3, "readNumber", "()V"⟩
abbrev cX3_readClosing : ByteArray := prog_5_method_6_code
def yX3_readClosing : MethodName := ⟨RX3, "readClosing", "()V"⟩
abbrev cX3_stopHere : ByteArray := prog_5_method_7_code
def yX3_stopHere : MethodName := ⟨RX3, "stopHere", "()V"⟩
abbrev cX3_here : ByteArray := prog_5_method_8_code
def yX3_here : MethodName := ⟨RX3, "here", "()I"⟩
abbrev cX3_nameHere : ByteArray := prog_5_method_9_code
def yX3_nameHere : MethodName := ⟨RX3, "nameHere", "()I"⟩
abbrev cX3_isDigit : ByteArray := prog_5_method_10_code
def yX3_isDigit : MethodName := ⟨RX3, "isDigit", "(I)Z"⟩
abbrev cX3_isSignOf : ByteArray := prog_5_method_11_code
def yX3_isSignOf : MethodName := ⟨RX3, "isSignOf", "(II)Z"⟩
def RX4 : String := "SoldDays$Row"
def TX4 : u_T := fun k => match k with
  | 0 => ("SoldDays$Row", "at", "[I", true)
  | _ => ("SoldDays$Row", "size", "I", false)
def tyX4 : Nat → FieldType := fun k => match k with
  | 0 => .array .int
  | _ => .int
abbrev wsX40 : List Cond := u_ws RX4 TX4 2
theorem nmX4 : ∀ a, a < 2 → ∀ b, b < 2 → a ≠ b → (TX4 a).2.1 ≠ (TX4 b).2.1 := by decide +kernel
theorem tyX4_ok : ∀ k, k < 2 → parseFieldDescriptor (TX4 k).2.2.1 = some (tyX4 k) := by decide +kernel
abbrev cX4_init : ByteArray := prog_6_method_1_code
def yX4_init : MethodName := ⟨RX4, "<init>", "(I)V"⟩
abbrev cX4_add : ByteArray := prog_6_method_2_code
def yX4_add : MethodName := ⟨RX4, "add", "(I)V"⟩
abbrev cX4_copyFrom : ByteArray := prog_6_method_3_code
def yX4_copyFrom : MethodName := ⟨RX4, "copyFrom", "(LSoldDays$Row;)V"⟩
def RX5 : String := "SoldDays$Sheets"
def TX5 : u_T := fun k => match k with
  | 0 => ("SoldDays$Sheets", "bits", "[I", true)
  | 1 => ("SoldDays$Sheets", "sizes", "[I", true)
  | _ => ("SoldDays$Sheets", "numbers", "[I", true)
def tyX5 : Nat → FieldType := fun k => match k with
  | 0 => .array .int
  | 1 => .array .int
  | _ => .array .int
abbrev wsX50 : List Cond := u_ws RX5 TX5 3
theorem nmX5 : ∀ a, a < 3 → ∀ b, b < 3 → a ≠ b → (TX5 a).2.1 ≠ (TX5 b).2.1 := by decide +kernel
theorem tyX5_ok : ∀ k, k < 3 → parseFieldDescriptor (TX5 k).2.2.1 = some (tyX5 k) := by decide +kernel
abbrev cX5_init : ByteArray := prog_7_method_1_code
def yX5_init : MethodName := ⟨RX5, "<init>", "()V"⟩
abbrev cX5_isSheet : ByteArray := prog_7_method_2_code
def yX5_isSheet : MethodName := ⟨RX5, "isSheet", "(I)Z"⟩
abbrev cX5_isMissing : ByteArray := prog_7_method_3_code
def yX5_isMissing : MethodName := ⟨RX5, "isMissing", "(I)Z"⟩
abbrev cX5_renew : ByteArray := prog_7_method_4_code
def yX5_renew : MethodName := ⟨RX5, "renew", "(III)V"⟩
abbrev cX5_numberAt : ByteArray := prog_7_method_5_code
def yX5_numberAt : MethodName := ⟨RX5, "numberAt", "(II)I"⟩
abbrev cX5_setNumber : ByteArray := prog_7_method_6_code
def yX5_setNumber : MethodName := ⟨RX5, "setNumber", "(III)V"⟩
abbrev cX5_stand : ByteArray := prog_7_method_7_code
def yX5_stand : MethodName := ⟨RX5, "stand", "(III)Z"⟩
abbrev cX5_copyNumbers : ByteArray := prog_7_method_8_code
def yX5_copyNumbers : MethodName := ⟨RX5, "copyNumbers", "(IIIII)V"⟩
def RX6 : String := "SoldDays$Text"
def TX6 : u_T := fun k => match k with
  | 0 => ("SoldDays$Text", "steps", "LSoldDays$Row;", true)
  | _ => ("SoldDays$Text", "stack", "[I", true)
def tyX6 : Nat → FieldType := fun k => match k with
  | 0 => .object "SoldDays$Row"
  | _ => .array .int
abbrev wsX60 : List Cond := u_ws RX6 TX6 2
theorem nmX6 : ∀ a, a < 2 → ∀ b, b < 2 → a ≠ b → (TX6 a).2.1 ≠ (TX6 b).2.1 := by decide +kernel
theorem tyX6_ok : ∀ k, k < 2 → parseFieldDescriptor (TX6 k).2.2.1 = some (tyX6 k) := by decide +kernel
abbrev cX6_init : ByteArray := prog_8_method_1_code
def yX6_init : MethodName := ⟨RX6, "<init>", "()V"⟩
abbrev cX6_isThere : ByteArray := prog_8_method_2_code
def yX6_isThere : MethodName := ⟨RX6, "isThere", "()Z"⟩
abbrev cX6_gives : ByteArray := prog_8_method_3_code
def yX6_gives : MethodName := ⟨RX6, "gives", "(III)I"⟩
abbrev cX6_operand : ByteArray := prog_8_method_4_code
def yX6_operand : MethodName := ⟨RX6, "operand", "(IIII)I"⟩
abbrev cX6_joined : ByteArray := prog_8_method_5_code
def yX6_joined : MethodName := ⟨RX6, "joined", "(III)I"⟩
def RX7 : String := "SoldDays$Thoughts"
def TX7 : u_T := fun k => match k with
  | 0 => ("SoldDays$Thoughts", "upDays", "[I", true)
  | 1 => ("SoldDays$Thoughts", "prices", "[I", true)
  | _ => ("SoldDays$Thoughts", "harms", "[I", true)
def tyX7 : Nat → FieldType := fun k => match k with
  | 0 => .array .int
  | 1 => .array .int
  | _ => .array .int
abbrev wsX70 : List Cond := u_ws RX7 TX7 3
theorem nmX7 : ∀ a, a < 3 → ∀ b, b < 3 → a ≠ b → (TX7 a).2.1 ≠ (TX7 b).2.1 := by decide +kernel
theorem tyX7_ok : ∀ k, k < 3 → parseFieldDescriptor (TX7 k).2.2.1 = some (tyX7 k) := by decide +kernel
abbrev cX7_init : ByteArray := prog_9_method_1_code
def yX7_init : MethodName := ⟨RX7, "<init>", "()V"⟩
abbrev cX7_fewestKeepers : ByteArray := prog_9_method_2_code
def yX7_fewestKeepers : MethodName := ⟨RX7, "fewestKeepers", "(LSoldDays$People;)I"⟩
abbrev cX7_daysKeptBy : ByteArray := prog_9_method_3_code
def yX7_daysKeptBy : MethodName := ⟨RX7, "daysKeptBy", "(I)I"⟩
abbrev cX7_howManyBought : ByteArray := prog_9_method_4_code
def yX7_howManyBought : MethodName := ⟨RX7, "howManyBought", "(LSoldDays$World;II)I"⟩
abbrev cX7_takenByBailiffs : ByteArray := prog_9_method_5_code
def yX7_takenByBailiffs : MethodName := ⟨RX7, "takenByBailiffs", "(LSoldDays$World;II)I"⟩
abbrev cX7_harmOf : ByteArray := prog_9_method_6_code
def yX7_harmOf : MethodName := ⟨RX7, "harmOf", "(LSoldDays$World;II)I"⟩
abbrev cX7_leastOf : ByteArray := prog_9_method_7_code
def yX7_leastOf : MethodName := ⟨RX7, "leastOf", "(I)I"⟩
abbrev cX7_isLess : ByteArray := prog_9_method_8_code
def yX7_isLess : MethodName := ⟨RX7, "isLess", "(II)Z"⟩
abbrev cX7_pricesOf : ByteArray := prog_9_method_9_code
def yX7_pricesOf : MethodName := ⟨RX7, "pricesOf", "(I)I"⟩
abbrev cX7_harmsOf : ByteArray := prog_9_method_10_code
def yX7_harmsOf : MethodName := ⟨RX7, "harmsOf", "(I)I"⟩
abbrev cX7_sumOver : ByteArray := prog_9_method_11_code
def yX7_sumOver : MethodName := ⟨RX7, "sumOver", "(I[I)I"⟩
abbrev cX7_memberOf : ByteArray := prog_9_method_12_code
def yX7_memberOf : MethodName := ⟨RX7, "memberOf", "(II)I"⟩
abbrev cX7_commonDivisor : ByteArray := prog_9_method_13_code
def yX7_commonDivisor : MethodName := ⟨RX7, "commonDivisor", "(I)I"⟩
def RX8 : String := "SoldDays$Voices"
def TX8 : u_T := fun k => match k with
  | 0 => ("SoldDays$Voices", "trace", "LSoldDays$Row;", true)
  | 1 => ("SoldDays$Voices", "parted", "Z", false)
  | 2 => ("SoldDays$Voices", "kind", "I", false)
  | 3 => ("SoldDays$Voices", "k", "I", false)
  | _ => ("SoldDays$Voices", "m", "I", false)
def tyX8 : Nat → FieldType := fun k => match k with
  | 0 => .object "SoldDays$Row"
  | 1 => .boolean
  | 2 => .int
  | 3 => .int
  | _ => .int
abbrev wsX80 : List Cond := u_ws RX8 TX8 5
theorem nmX8 : ∀ a, a < 5 → ∀ b, b < 5 → a ≠ b → (TX8 a).2.1 ≠ (TX8 b).2.1 := by decide +kernel
theorem tyX8_ok : ∀ k, k < 5 → parseFieldDescriptor (TX8 k).2.2.1 = some (tyX8 k) := by decide +kernel
abbrev cX8_init : ByteArray := prog_10_method_1_code
def yX8_init : MethodName := ⟨RX8, "<init>", "()V"⟩
abbrev cX8_startAs : ByteArray := prog_10_method_2_code
def yX8_startAs : MethodName := ⟨RX8, "startAs", "(ILSoldDays$People;)V"⟩
abbrev cX8_own : ByteArray := prog_10_method_3_code
def yX8_own : MethodName := ⟨RX8, "own", "(III)I"⟩
abbrev cX8_sound : ByteArray := prog_10_method_4_code
def yX8_sound : MethodName := ⟨RX8, "sound", "(IIII)I"⟩
abbrev cX8_partAndTrade : ByteArray := prog_10_method_5_code
def yX8_partAndTrade : MethodName := ⟨RX8, "partAndTrade", "(III)I"⟩
abbrev cX8_part : ByteArray := prog_10_method_6_code
def yX8_part : MethodName := ⟨RX8, "part", "(II)I"⟩
def RX9 : String := "SoldDays$World"
def TX9 : u_T := fun k => match k with
  | 0 => ("SoldDays$World", "people", "LSoldDays$People;", true)
  | 1 => ("SoldDays$World", "promises", "LSoldDays$Promises;", true)
  | 2 => ("SoldDays$World", "priceText", "LSoldDays$Text;", true)
  | 3 => ("SoldDays$World", "duesText", "LSoldDays$Text;", true)
  | 4 => ("SoldDays$World", "tape", "LSoldDays$Row;", true)
  | 5 => ("SoldDays$World", "waiting", "LSoldDays$Row;", true)
  | 6 => ("SoldDays$World", "today", "I", false)
  | 7 => ("SoldDays$World", "meetings", "I", false)
  | 8 => ("SoldDays$World", "kept", "I", false)
  | 9 => ("SoldDays$World", "broken", "I", false)
  | 10 => ("SoldDays$World", "lonely", "I", false)
  | _ => ("SoldDays$World", "z", "I", false)
def tyX9 : Nat → FieldType := fun k => match k with
  | 0 => .object "SoldDays$People"
  | 1 => .object "SoldDays$Promises"
  | 2 => .object "SoldDays$Text"
  | 3 => .object "SoldDays$Text"
  | 4 => .object "SoldDays$Row"
  | 5 => .object "SoldDays$Row"
  | 6 => .int
  | 7 => .int
  | 8 => .int
  | 9 => .int
  | 10 => .int
  | _ => .int
abbrev wsX90 : List Cond := u_ws RX9 TX9 12
theorem nmX9 : ∀ a, a < 12 → ∀ b, b < 12 → a ≠ b → (TX9 a).2.1 ≠ (TX9 b).2.1 := by decide +kernel
theorem tyX9_ok : ∀ k, k < 12 → parseFieldDescriptor (TX9 k).2.2.1 = some (tyX9 k) := by decide +kernel
abbrev cX9_init : ByteArray := prog_11_method_1_code
def yX9_init : MethodName := ⟨RX9, "<init>", "()V"⟩
abbrev cX9_dayIn : ByteArray := prog_11_method_2_code
def yX9_dayIn : MethodName := ⟨RX9, "dayIn", "(I)I"⟩
abbrev cX9_textOf : ByteArray := prog_11_method_3_code
def yX9_textOf : MethodName := ⟨RX9, "textOf", "(I)LSoldDays$Text;"⟩
abbrev cX9_useGives : ByteArray := prog_11_method_4_code
def yX9_useGives : MethodName := ⟨RX9, "useGives", "(IIII)I"⟩
abbrev cX9_held : ByteArray := prog_11_method_5_code
def yX9_held : MethodName := ⟨RX9, "held", "(II)I"⟩
abbrev cX9_priceOf : ByteArray := prog_11_method_6_code
def yX9_priceOf : MethodName := ⟨RX9, "priceOf", "(II)I"⟩
abbrev cX9_saleCanBe : ByteArray := prog_11_method_7_code
def yX9_saleCanBe : MethodName := ⟨RX9, "saleCanBe", "(III)Z"⟩
abbrev cX9_dayCanPass : ByteArray := prog_11_method_8_code
def yX9_dayCanPass : MethodName := ⟨RX9, "dayCanPass", "(III)Z"⟩
abbrev cX9_canPay : ByteArray := prog_11_method_9_code
def yX9_canPay : MethodName := ⟨RX9, "canPay", "(III)Z"⟩
abbrev cX9_weekCanBe : ByteArray := prog_11_method_10_code
def yX9_weekCanBe : MethodName := ⟨RX9, "weekCanBe", "(III)Z"⟩
abbrev cX9_makeSale : ByteArray := prog_11_method_11_code
def yX9_makeSale : MethodName := ⟨RX9, "makeSale", "(III)I"⟩
abbrev cX9_saleByDraws : ByteArray := prog_11_method_12_code
def yX9_saleByDraws : MethodName := ⟨RX9, "saleByDraws", "()I"⟩
abbrev cX9_draw : ByteArray := prog_11_method_13_code
def yX9_draw : MethodName := ⟨RX9, "draw", "()I"⟩
abbrev cX9_letDayGo : ByteArray := prog_11_method_14_code
def yX9_letDayGo : MethodName := ⟨RX9, "letDayGo", "()I"⟩
abbrev cX9_letOneLive : ByteArray := prog_11_method_15_code
def yX9_letOneLive : MethodName := ⟨RX9, "letOneLive", "(III)V"⟩
abbrev cX9_settlePromises : ByteArray := prog_11_method_16_code
def yX9_settlePromises : MethodName := ⟨RX9, "settlePromises", "(I)V"⟩
abbrev cX9_older : ByteArray := prog_11_method_17_code
def yX9_older : MethodName := ⟨RX9, "older", "(II)I"⟩
abbrev cX9_poorer : ByteArray := prog_11_method_18_code
def yX9_poorer : MethodName := ⟨RX9, "poorer", "(II)I"⟩
abbrev cX9_oneMore : ByteArray := prog_11_method_19_code
def yX9_oneMore : MethodName := ⟨RX9, "oneMore", "(I)I"⟩
abbrev cX9_copyFrom : ByteArray := prog_11_method_20_code
def yX9_copyFrom : MethodName := ⟨RX9, "copyFrom", "(LSoldDays$World;)V"⟩
def RX10 : String := "SoldDays"
def TX10 : u_T := fun k => match k with
  | 0 => ("SoldDays", "now", "LSoldDays$World;", true)
  | 1 => ("SoldDays", "image", "LSoldDays$World;", true)
  | 2 => ("SoldDays", "reader", "LSoldDays$Reader;", true)
  | 3 => ("SoldDays", "thoughts", "LSoldDays$Thoughts;", true)
  | 4 => ("SoldDays", "voices", "LSoldDays$Voices;", true)
  | 5 => ("SoldDays", "sheets", "LSoldDays$Sheets;", true)
  | 6 => ("SoldDays", "errors", "[I", true)
  | _ => ("SoldDays", "images", "I", false)
def tyX10 : Nat → FieldType := fun k => match k with
  | 0 => .object "SoldDays$World"
  | 1 => .object "SoldDays$World"
  | 2 => .object "SoldDays$Reader"
  | 3 => .object "SoldDays$Thoughts"
  | 4 => .object "SoldDays$Voices"
  | 5 => .object "SoldDays$Sheets"
  | 6 => .array .int
  | _ => .int
abbrev wsX100 : List Cond := u_ws RX10 TX10 8
theorem nmX10 : ∀ a, a < 8 → ∀ b, b < 8 → a ≠ b → (TX10 a).2.1 ≠ (TX10 b).2.1 := by decide +kernel
theorem tyX10_ok : ∀ k, k < 8 → parseFieldDescriptor (TX10 k).2.2.1 = some (tyX10 k) := by decide +kernel
abbrev cX10_init : ByteArray := prog_1_method_1_code
def yX10_init : MethodName := ⟨RX10, "<init>", "()V"⟩
abbrev cX10_error : ByteArray := prog_1_method_2_code
def yX10_error : MethodName := ⟨RX10, "error", "(I)I"⟩
abbrev cX10_isDay : ByteArray := prog_1_method_3_code
def yX10_isDay : MethodName := ⟨RX10, "isDay", "(I)Z"⟩
abbrev cX10_isUse : ByteArray := prog_1_method_4_code
def yX10_isUse : MethodName := ⟨RX10, "isUse", "(I)Z"⟩
abbrev cX10_isWithin : ByteArray := prog_1_method_5_code
def yX10_isWithin : MethodName := ⟨RX10, "isWithin", "(III)Z"⟩
abbrev cX10_person : ByteArray := prog_1_method_6_code
def yX10_person : MethodName := ⟨RX10, "person", "(I)I"⟩
abbrev cX10_personIs : ByteArray := prog_1_method_7_code
def yX10_personIs : MethodName := ⟨RX10, "personIs", "(II)I"⟩
abbrev cX10_become : ByteArray := prog_1_method_8_code
def yX10_become : MethodName := ⟨RX10, "become", "(II)I"⟩
abbrev cX10_as : ByteArray := prog_1_method_9_code
def yX10_as : MethodName := ⟨RX10, "as", "(II)I"⟩
abbrev cX10_change : ByteArray := prog_1_method_10_code
def yX10_change : MethodName := ⟨RX10, "change", "(III)I"⟩
abbrev cX10_has : ByteArray := prog_1_method_11_code
def yX10_has : MethodName := ⟨RX10, "has", "(II)I"⟩
abbrev cX10_give : ByteArray := prog_1_method_12_code
def yX10_give : MethodName := ⟨RX10, "give", "(III)I"⟩
abbrev cX10_price : ByteArray := prog_1_method_13_code
def yX10_price : MethodName := ⟨RX10, "price", "(II)I"⟩
abbrev cX10_sell : ByteArray := prog_1_method_14_code
def yX10_sell : MethodName := ⟨RX10, "sell", "(III)I"⟩
abbrev cX10_sellWeek : ByteArray := prog_1_method_15_code
def yX10_sellWeek : MethodName := ⟨RX10, "sellWeek", "(III)I"⟩
abbrev cX10_promise : ByteArray := prog_1_method_16_code
def yX10_promise : MethodName := ⟨RX10, "promise", "(III)I"⟩
abbrev cX10_promiseIs : ByteArray := prog_1_method_17_code
def yX10_promiseIs : MethodName := ⟨RX10, "promiseIs", "(II)I"⟩
abbrev cX10_feed : ByteArray := prog_1_method_18_code
def yX10_feed : MethodName := ⟨RX10, "feed", "(JI)I"⟩
abbrev cX10_text : ByteArray := prog_1_method_19_code
def yX10_text : MethodName := ⟨RX10, "text", "(I)I"⟩
abbrev cX10_untell : ByteArray := prog_1_method_20_code
def yX10_untell : MethodName := ⟨RX10, "untell", "(I)I"⟩
abbrev cX10_law : ByteArray := prog_1_method_21_code
def yX10_law : MethodName := ⟨RX10, "law", "(IIII)I"⟩
abbrev cX10_days : ByteArray := prog_1_method_22_code
def yX10_days : MethodName := ⟨RX10, "days", "(I)I"⟩
abbrev cX10_loose : ByteArray := prog_1_method_23_code
def yX10_loose : MethodName := ⟨RX10, "loose", "(I)I"⟩
abbrev cX10_seed : ByteArray := prog_1_method_24_code
def yX10_seed : MethodName := ⟨RX10, "seed", "(I)I"⟩
abbrev cX10_then : ByteArray := prog_1_method_25_code
def yX10_then : MethodName := ⟨RX10, "then", "(III)I"⟩
abbrev cX10_alone : ByteArray := prog_1_method_26_code
def yX10_alone : MethodName := ⟨RX10, "alone", "(I)I"⟩
abbrev cX10_meet : ByteArray := prog_1_method_27_code
def yX10_meet : MethodName := ⟨RX10, "meet", "(II)I"⟩
abbrev cX10_keepers : ByteArray := prog_1_method_28_code
def yX10_keepers : MethodName := ⟨RX10, "keepers", "(I)I"⟩
abbrev cX10_buys : ByteArray := prog_1_method_29_code
def yX10_buys : MethodName := ⟨RX10, "buys", "(II)I"⟩
abbrev cX10_bailiffs : ByteArray := prog_1_method_30_code
def yX10_bailiffs : MethodName := ⟨RX10, "bailiffs", "(III)I"⟩
abbrev cX10_odds : ByteArray := prog_1_method_31_code
def yX10_odds : MethodName := ⟨RX10, "odds", "(II)I"⟩
abbrev cX10_fits : ByteArray := prog_1_method_32_code
def yX10_fits : MethodName := ⟨RX10, "fits", "(I)I"⟩
abbrev cX10_livesAsTold : ByteArray := prog_1_method_33_code
def yX10_livesAsTold : MethodName := ⟨RX10, "livesAsTold", "(II)Z"⟩
abbrev cX10_voice : ByteArray := prog_1_method_34_code
def yX10_voice : MethodName := ⟨RX10, "voice", "(III)I"⟩
abbrev cX10_body : ByteArray := prog_1_method_35_code
def yX10_body : MethodName := ⟨RX10, "body", "(I)I"⟩
abbrev cX10_sheet : ByteArray := prog_1_method_36_code
def yX10_sheet : MethodName := ⟨RX10, "sheet", "(III)I"⟩
abbrev cX10_put : ByteArray := prog_1_method_37_code
def yX10_put : MethodName := ⟨RX10, "put", "(III)I"⟩
abbrev cX10_move : ByteArray := prog_1_method_38_code
def yX10_move : MethodName := ⟨RX10, "move", "(IIIII)I"⟩
abbrev cX10_funds : ByteArray := prog_1_method_39_code
def yX10_funds : MethodName := ⟨RX10, "funds", "(I)I"⟩
abbrev cX10_judge : ByteArray := prog_1_method_40_code
def yX10_judge : MethodName := ⟨RX10, "judge", "(I)I"⟩
abbrev cX10_image : ByteArray := prog_1_method_41_code
def yX10_image : MethodName := ⟨RX10, "image", "()I"⟩
abbrev cX10_restore : ByteArray := prog_1_method_42_code
def yX10_restore : MethodName := ⟨RX10, "restore", "()I"⟩
abbrev cX10_tell : ByteArray := prog_1_method_43_code
def yX10_tell : MethodName := ⟨RX10, "tell", "(I)I"⟩
abbrev cX10_check : ByteArray := prog_1_method_44_code
def yX10_check : MethodName := ⟨RX10, "check", "()I"⟩
abbrev cX10_count : ByteArray := prog_1_method_45_code
def yX10_count : MethodName := ⟨RX10, "count", "(I)I"⟩
abbrev cX10_told : ByteArray := prog_1_method_46_code
def yX10_told : MethodName := ⟨RX10, "told", "(I)I"⟩
def RX11 : String := "SoldDaysModel"
def TX11 : u_T := fun k => match k with
  | 0 => ("SoldDaysModel", "row", "[I", true)
  | 1 => ("SoldDaysModel", "kept", "[I", true)
  | 2 => ("SoldDaysModel", "before", "[I", true)
  | 3 => ("SoldDaysModel", "images", "I", false)
  | 4 => ("SoldDaysModel", "errors", "[I", true)
  | 5 => ("SoldDaysModel", "bitsOf", "[I", true)
  | 6 => ("SoldDaysModel", "sizeOf", "[I", true)
  | 7 => ("SoldDaysModel", "cells", "[I", true)
  | 8 => ("SoldDaysModel", "act", "[I", true)
  | 9 => ("SoldDaysModel", "with", "[I", true)
  | 10 => ("SoldDaysModel", "facts", "[I", true)
  | 11 => ("SoldDaysModel", "pile", "[I", true)
  | 12 => ("SoldDaysModel", "laid", "I", false)
  | 13 => ("SoldDaysModel", "here", "I", false)
  | 14 => ("SoldDaysModel", "opened", "I", false)
  | 15 => ("SoldDaysModel", "bad", "Z", false)
  | 16 => ("SoldDaysModel", "using", "I", false)
  | 17 => ("SoldDaysModel", "taken", "[I", true)
  | 18 => ("SoldDaysModel", "bestTaken", "[I", true)
  | 19 => ("SoldDaysModel", "leastBroken", "I", false)
  | 20 => ("SoldDaysModel", "leastPrice", "I", false)
  | 21 => ("SoldDaysModel", "trace", "[I", true)
  | 22 => ("SoldDaysModel", "traced", "I", false)
  | _ => ("SoldDaysModel", "isParted", "Z", false)
def tyX11 : Nat → FieldType := fun k => match k with
  | 0 => .array .int
  | 1 => .array .int
  | 2 => .array .int
  | 3 => .int
  | 4 => .array .int
  | 5 => .array .int
  | 6 => .array .int
  | 7 => .array .int
  | 8 => .array .int
  | 9 => .array .int
  | 10 => .array .int
  | 11 => .array .int
  | 12 => .int
  | 13 => .int
  | 14 => .int
  | 15 => .boolean
  | 16 => .int
  | 17 => .array .int
  | 18 => .array .int
  | 19 => .int
  | 20 => .int
  | 21 => .array .int
  | 22 => .int
  | _ => .boolean
abbrev wsX110 : List Cond := u_ws RX11 TX11 24
theorem nmX11 : ∀ a, a < 24 → ∀ b, b < 24 → a ≠ b → (TX11 a).2.1 ≠ (TX11 b).2.1 := by decide +kernel
theorem tyX11_ok : ∀ k, k < 24 → parseFieldDescriptor (TX11 k).2.2.1 = some (tyX11 k) := by decide +kernel
abbrev cX11_init : ByteArray := prog_13_method_1_code
def yX11_init : MethodName := ⟨RX11, "<init>", "()V"⟩
abbrev cX11_error : ByteArray := prog_13_method_2_code
def yX11_error : MethodName := ⟨RX11, "error", "(I)I"⟩
abbrev cX11_in : ByteArray := prog_13_method_3_code
def yX11_in : MethodName := ⟨RX11, "in", "(III)Z"⟩
abbrev cX11_held : ByteArray := prog_13_method_4_code
def yX11_held : MethodName := ⟨RX11, "held", "(III)I"⟩
abbrev cX11_copyAll : ByteArray := prog_13_method_5_code
def yX11_copyAll : MethodName := ⟨RX11, "copyAll", "([I[I)V"⟩
abbrev cX11_bits : ByteArray := prog_13_method_6_code
def yX11_bits : MethodName := ⟨RX11, "bits", "(I)I"⟩
abbrev cX11_isPerson : ByteArray := prog_13_method_7_code
def yX11_isPerson : MethodName := ⟨RX11, "isPerson", "(I)Z"⟩
abbrev cX11_areTwo : ByteArray := prog_13_method_8_code
def yX11_areTwo : MethodName := ⟨RX11, "areTwo", "(II)Z"⟩
abbrev cX11_isDay : ByteArray := prog_13_method_9_code
def yX11_isDay : MethodName := ⟨RX11, "isDay", "(I)Z"⟩
abbrev cX11_becomes : ByteArray := prog_13_method_10_code
def yX11_becomes : MethodName := ⟨RX11, "becomes", "(II)I"⟩
abbrev cX11_of : ByteArray := prog_13_method_11_code
def yX11_of : MethodName := ⟨RX11, "of", "(II)I"⟩
abbrev cX11_lay : ByteArray := prog_13_method_12_code
def yX11_lay : MethodName := ⟨RX11, "lay", "(III)V"⟩
abbrev cX11_said : ByteArray := prog_13_method_13_code
def yX11_said : MethodName := ⟨RX11, "said", "(II)I"⟩
abbrev cX11_counts : ByteArray := prog_13_method_14_code
def yX11_counts : MethodName := ⟨RX11, "counts", "(I)V"⟩
abbrev cX11_livesOf : ByteArray := prog_13_method_15_code
def yX11_livesOf : MethodName := ⟨RX11, "livesOf", "(II)I"⟩
abbrev cX11_isUp : ByteArray := prog_13_method_16_code
def yX11_isUp : MethodName := ⟨RX11, "isUp", "(II)Z"⟩
abbrev cX11_manyUp : ByteArray := prog_13_method_17_code
def yX11_manyUp : MethodName := ⟨RX11, "manyUp", "(I)I"⟩
abbrev cX11_isKept : ByteArray := prog_13_method_18_code
def yX11_isKept : MethodName := ⟨RX11, "isKept", "(I)Z"⟩
abbrev cX11_notKept : ByteArray := prog_13_method_19_code
def yX11_notKept : MethodName := ⟨RX11, "notKept", "()I"⟩
abbrev cX11_isKm : ByteArray := prog_13_method_20_code
def yX11_isKm : MethodName := ⟨RX11, "isKm", "(I)Z"⟩
abbrev cX11_person : ByteArray := prog_13_method_21_code
def yX11_person : MethodName := ⟨RX11, "person", "(I)I"⟩
abbrev cX11_personIs : ByteArray := prog_13_method_22_code
def yX11_personIs : MethodName := ⟨RX11, "personIs", "(II)I"⟩
abbrev cX11_become : ByteArray := prog_13_method_23_code
def yX11_become : MethodName := ⟨RX11, "become", "(II)I"⟩
abbrev cX11_as : ByteArray := prog_13_method_24_code
def yX11_as : MethodName := ⟨RX11, "as", "(II)I"⟩
abbrev cX11_change : ByteArray := prog_13_method_25_code
def yX11_change : MethodName := ⟨RX11, "change", "(III)I"⟩
abbrev cX11_has : ByteArray := prog_13_method_26_code
def yX11_has : MethodName := ⟨RX11, "has", "(II)I"⟩
abbrev cX11_give : ByteArray := prog_13_method_27_code
def yX11_give : MethodName := ⟨RX11, "give", "(III)I"⟩
abbrev cX11_priceOf : ByteArray := prog_13_method_28_code
def yX11_priceOf : MethodName := ⟨RX11, "priceOf", "(II)I"⟩
abbrev cX11_canSell : ByteArray := prog_13_method_29_code
def yX11_canSell : MethodName := ⟨RX11, "canSell", "(III)Z"⟩
abbrev cX11_sells : ByteArray := prog_13_method_30_code
def yX11_sells : MethodName := ⟨RX11, "sells", "(III)I"⟩
abbrev cX11_price : ByteArray := prog_13_method_31_code
def yX11_price : MethodName := ⟨RX11, "price", "(II)I"⟩
abbrev cX11_sell : ByteArray := prog_13_method_32_code
def yX11_sell : MethodName := ⟨RX11, "sell", "(III)I"⟩
abbrev cX11_sellWeek : ByteArray := prog_13_method_33_code
def yX11_sellWeek : MethodName := ⟨RX11, "sellWeek", "(III)I"⟩
abbrev cX11_promise : ByteArray := prog_13_method_34_code
def yX11_promise : MethodName := ⟨RX11, "promise", "(III)I"⟩
abbrev cX11_promiseIs : ByteArray := prog_13_method_35_code
def yX11_promiseIs : MethodName := ⟨RX11, "promiseIs", "(II)I"⟩
abbrev cX11_feed : ByteArray := prog_13_method_36_code
def yX11_feed : MethodName := ⟨RX11, "feed", "(JI)I"⟩
abbrev cX11_look : ByteArray := prog_13_method_37_code
def yX11_look : MethodName := ⟨RX11, "look", "()I"⟩
abbrev cX11_step : ByteArray := prog_13_method_38_code
def yX11_step : MethodName := ⟨RX11, "step", "(II)V"⟩
abbrev cX11_nameOf : ByteArray := prog_13_method_39_code
def yX11_nameOf : MethodName := ⟨RX11, "nameOf", "(I)I"⟩
abbrev cX11_number : ByteArray := prog_13_method_40_code
def yX11_number : MethodName := ⟨RX11, "number", "()V"⟩
abbrev cX11_opens : ByteArray := prog_13_method_41_code
def yX11_opens : MethodName := ⟨RX11, "opens", "(I)V"⟩
abbrev cX11_one : ByteArray := prog_13_method_42_code
def yX11_one : MethodName := ⟨RX11, "one", "()V"⟩
abbrev cX11_times : ByteArray := prog_13_method_43_code
def yX11_times : MethodName := ⟨RX11, "times", "()V"⟩
abbrev cX11_sum : ByteArray := prog_13_method_44_code
def yX11_sum : MethodName := ⟨RX11, "sum", "()V"⟩
abbrev cX11_compares : ByteArray := prog_13_method_45_code
def yX11_compares : MethodName := ⟨RX11, "compares", "()V"⟩
abbrev cX11_all : ByteArray := prog_13_method_46_code
def yX11_all : MethodName := ⟨RX11, "all", "()V"⟩
abbrev cX11_any : ByteArray := prog_13_method_47_code
def yX11_any : MethodName := ⟨RX11, "any", "()V"⟩
abbrev cX11_text : ByteArray := prog_13_method_48_code
def yX11_text : MethodName := ⟨RX11, "text", "(I)I"⟩
abbrev cX11_untell : ByteArray := prog_13_method_49_code
def yX11_untell : MethodName := ⟨RX11, "untell", "(I)I"⟩
abbrev cX11_twoOf : ByteArray := prog_13_method_50_code
def yX11_twoOf : MethodName := ⟨RX11, "twoOf", "(III)I"⟩
abbrev cX11_works : ByteArray := prog_13_method_51_code
def yX11_works : MethodName := ⟨RX11, "works", "(I)I"⟩
abbrev cX11_gives : ByteArray := prog_13_method_52_code
def yX11_gives : MethodName := ⟨RX11, "gives", "(IIII)I"⟩
abbrev cX11_law : ByteArray := prog_13_method_53_code
def yX11_law : MethodName := ⟨RX11, "law", "(IIII)I"⟩
abbrev cX11_lives : ByteArray := prog_13_method_54_code
def yX11_lives : MethodName := ⟨RX11, "lives", "(II)V"⟩
abbrev cX11_goes : ByteArray := prog_13_method_55_code
def yX11_goes : MethodName := ⟨RX11, "goes", "()I"⟩
abbrev cX11_days : ByteArray := prog_13_method_56_code
def yX11_days : MethodName := ⟨RX11, "days", "(I)I"⟩
abbrev cX11_draw : ByteArray := prog_13_method_57_code
def yX11_draw : MethodName := ⟨RX11, "draw", "()I"⟩
abbrev cX11_drawn : ByteArray := prog_13_method_58_code
def yX11_drawn : MethodName := ⟨RX11, "drawn", "()I"⟩
abbrev cX11_loose : ByteArray := prog_13_method_59_code
def yX11_loose : MethodName := ⟨RX11, "loose", "(I)I"⟩
abbrev cX11_seed : ByteArray := prog_13_method_60_code
def yX11_seed : MethodName := ⟨RX11, "seed", "(I)I"⟩
abbrev cX11_thinks : ByteArray := prog_13_method_61_code
def yX11_thinks : MethodName := ⟨RX11, "thinks", "()V"⟩
abbrev cX11_putsBack : ByteArray := prog_13_method_62_code
def yX11_putsBack : MethodName := ⟨RX11, "putsBack", "()V"⟩
abbrev cX11_then : ByteArray := prog_13_method_63_code
def yX11_then : MethodName := ⟨RX11, "then", "(III)I"⟩
abbrev cX11_alone : ByteArray := prog_13_method_64_code
def yX11_alone : MethodName := ⟨RX11, "alone", "(I)I"⟩
abbrev cX11_meet : ByteArray := prog_13_method_65_code
def yX11_meet : MethodName := ⟨RX11, "meet", "(II)I"⟩
abbrev cX11_doKeep : ByteArray := prog_13_method_66_code
def yX11_doKeep : MethodName := ⟨RX11, "doKeep", "(I)Z"⟩
abbrev cX11_keepers : ByteArray := prog_13_method_67_code
def yX11_keepers : MethodName := ⟨RX11, "keepers", "(I)I"⟩
abbrev cX11_costing : ByteArray := prog_13_method_68_code
def yX11_costing : MethodName := ⟨RX11, "costing", "(III)I"⟩
abbrev cX11_buys : ByteArray := prog_13_method_69_code
def yX11_buys : MethodName := ⟨RX11, "buys", "(II)I"⟩
abbrev cX11_takes : ByteArray := prog_13_method_70_code
def yX11_takes : MethodName := ⟨RX11, "takes", "(IIIII)V"⟩
abbrev cX11_bailiffs : ByteArray := prog_13_method_71_code
def yX11_bailiffs : MethodName := ⟨RX11, "bailiffs", "(III)I"⟩
abbrev cX11_odds : ByteArray := prog_13_method_72_code
def yX11_odds : MethodName := ⟨RX11, "odds", "(II)I"⟩
abbrev cX11_fits : ByteArray := prog_13_method_73_code
def yX11_fits : MethodName := ⟨RX11, "fits", "(I)I"⟩
abbrev cX11_begins : ByteArray := prog_13_method_74_code
def yX11_begins : MethodName := ⟨RX11, "begins", "(I)V"⟩
abbrev cX11_plainYawns : ByteArray := prog_13_method_75_code
def yX11_plainYawns : MethodName := ⟨RX11, "plainYawns", "(II)I"⟩
abbrev cX11_studentYawns : ByteArray := prog_13_method_76_code
def yX11_studentYawns : MethodName := ⟨RX11, "studentYawns", "(II)I"⟩
abbrev cX11_yawns : ByteArray := prog_13_method_77_code
def yX11_yawns : MethodName := ⟨RX11, "yawns", "(II)I"⟩
abbrev cX11_plainTrades : ByteArray := prog_13_method_78_code
def yX11_plainTrades : MethodName := ⟨RX11, "plainTrades", "(II)I"⟩
abbrev cX11_widowTrades : ByteArray := prog_13_method_79_code
def yX11_widowTrades : MethodName := ⟨RX11, "widowTrades", "(II)I"⟩
abbrev cX11_trades : ByteArray := prog_13_method_80_code
def yX11_trades : MethodName := ⟨RX11, "trades", "(II)I"⟩
abbrev cX11_plainAges : ByteArray := prog_13_method_81_code
def yX11_plainAges : MethodName := ⟨RX11, "plainAges", "(II)I"⟩
abbrev cX11_ages : ByteArray := prog_13_method_82_code
def yX11_ages : MethodName := ⟨RX11, "ages", "(II)I"⟩
abbrev cX11_plainParts : ByteArray := prog_13_method_83_code
def yX11_plainParts : MethodName := ⟨RX11, "plainParts", "(II)I"⟩
abbrev cX11_parts : ByteArray := prog_13_method_84_code
def yX11_parts : MethodName := ⟨RX11, "parts", "(II)I"⟩
abbrev cX11_voice : ByteArray := prog_13_method_85_code
def yX11_voice : MethodName := ⟨RX11, "voice", "(III)I"⟩
abbrev cX11_body : ByteArray := prog_13_method_86_code
def yX11_body : MethodName := ⟨RX11, "body", "(I)I"⟩
abbrev cX11_isSheet : ByteArray := prog_13_method_87_code
def yX11_isSheet : MethodName := ⟨RX11, "isSheet", "(I)Z"⟩
abbrev cX11_sheet : ByteArray := prog_13_method_88_code
def yX11_sheet : MethodName := ⟨RX11, "sheet", "(III)I"⟩
abbrev cX11_notThere : ByteArray := prog_13_method_89_code
def yX11_notThere : MethodName := ⟨RX11, "notThere", "(I)I"⟩
abbrev cX11_put : ByteArray := prog_13_method_90_code
def yX11_put : MethodName := ⟨RX11, "put", "(III)I"⟩
abbrev cX11_notMoved : ByteArray := prog_13_method_91_code
def yX11_notMoved : MethodName := ⟨RX11, "notMoved", "(IIIII)I"⟩
abbrev cX11_move : ByteArray := prog_13_method_92_code
def yX11_move : MethodName := ⟨RX11, "move", "(IIIII)I"⟩
abbrev cX11_funds : ByteArray := prog_13_method_93_code
def yX11_funds : MethodName := ⟨RX11, "funds", "(I)I"⟩
abbrev cX11_judge : ByteArray := prog_13_method_94_code
def yX11_judge : MethodName := ⟨RX11, "judge", "(I)I"⟩
abbrev cX11_image : ByteArray := prog_13_method_95_code
def yX11_image : MethodName := ⟨RX11, "image", "()I"⟩
abbrev cX11_restore : ByteArray := prog_13_method_96_code
def yX11_restore : MethodName := ⟨RX11, "restore", "()I"⟩
abbrev cX11_tell : ByteArray := prog_13_method_97_code
def yX11_tell : MethodName := ⟨RX11, "tell", "(I)I"⟩
abbrev cX11_check : ByteArray := prog_13_method_98_code
def yX11_check : MethodName := ⟨RX11, "check", "()I"⟩
abbrev cX11_count : ByteArray := prog_13_method_99_code
def yX11_count : MethodName := ⟨RX11, "count", "(I)I"⟩
abbrev cX11_told : ByteArray := prog_13_method_100_code
def yX11_told : MethodName := ⟨RX11, "told", "(I)I"⟩
def RJ6 : String := "java/lang/Integer"
def TJ6 : u_T := fun k => match k with
  | _ => ("", "", "", false)
def tyJ6 : Nat → FieldType := fun k => match k with
  | _ => .int
abbrev wsJ60 : List Cond := u_ws RJ6 TJ6 0
theorem nmJ6 : ∀ a, a < 0 → ∀ b, b < 0 → a ≠ b → (TJ6 a).2.1 ≠ (TJ6 b).2.1 := by decide +kernel
theorem tyJ6_ok : ∀ k, k < 0 → parseFieldDescriptor (TJ6 k).2.2.1 = some (tyJ6 k) := by decide +kernel
abbrev cJ6_bitCount_0f7a4 : ByteArray := prog_14_method_49_code
def yJ6_bitCount_0f7a4 : MethodName := ⟨RJ6, "bitCount", "(I)I"⟩
def RJ9 : String := "java/lang/Math"
def TJ9 : u_T := fun k => match k with
  | _ => ("", "", "", false)
def tyJ9 : Nat → FieldType := fun k => match k with
  | _ => .int
abbrev wsJ90 : List Cond := u_ws RJ9 TJ9 0
theorem nmJ9 : ∀ a, a < 0 → ∀ b, b < 0 → a ≠ b → (TJ9 a).2.1 ≠ (TJ9 b).2.1 := by decide +kernel
theorem tyJ9_ok : ∀ k, k < 0 → parseFieldDescriptor (TJ9 k).2.2.1 = some (tyJ9 k) := by decide +kernel
abbrev cJ9_max_7cf53 : ByteArray := prog_15_method_65_code
def yJ9_max_7cf53 : MethodName := ⟨RJ9, "max", "(II)I"⟩
abbrev cJ9_min_7cf53 : ByteArray := prog_15_method_69_code
def yJ9_min_7cf53 : MethodName := ⟨RJ9, "min", "(II)I"⟩
def RJ10 : String := "java/lang/System"
def TJ10 : u_T := fun k => match k with
  | _ => ("", "", "", false)
def tyJ10 : Nat → FieldType := fun k => match k with
  | _ => .int
abbrev wsJ100 : List Cond := u_ws RJ10 TJ10 0
theorem nmJ10 : ∀ a, a < 0 → ∀ b, b < 0 → a ≠ b → (TJ10 a).2.1 ≠ (TJ10 b).2.1 := by decide +kernel
theorem tyJ10_ok : ∀ k, k < 0 → parseFieldDescriptor (TJ10 k).2.2.1 = some (tyJ10 k) := by decide +kernel
def RL : String := "SoldDaysLaw"
abbrev cL_law : ByteArray := code
def yL_law : MethodName := ⟨RL, "law", "([I)Z"⟩
abbrev vwCl : List vw_C := [(RX1, TX1, 6), (RX2, TX2, 4), (RX3, TX3, 5), (RX4, TX4, 2), (RX5, TX5, 3), (RX6, TX6, 2), (RX7, TX7, 3), (RX8, TX8, 5), (RX9, TX9, 12), (RX10, TX10, 8), (RX11, TX11, 24)]
/-- a method: its name, its code, its locals, what it answers -/
abbrev KM : Type := MethodName × ByteArray × Nat × Option FieldType
abbrev mX0_isKind : KM := (yX0_isKind, cX0_isKind, 1, (some .boolean))
abbrev mX0_isKindAndNumber : KM := (yX0_isKindAndNumber, cX0_isKindAndNumber, 1, (some .boolean))
abbrev mX0_above : KM := (yX0_above, cX0_above, 1, (some .int))
abbrev mX0_isUnder : KM := (yX0_isUnder, cX0_isUnder, 4, (some .boolean))
abbrev mX0_bodyOf : KM := (yX0_bodyOf, cX0_bodyOf, 2, (some .int))
abbrev mX0_speaker : KM := (yX0_speaker, cX0_speaker, 4, (some .int))
abbrev mX0_lives : KM := (yX0_lives, cX0_lives, 6, (some .int))
abbrev mX1_init : KM := (yX1_init, cX1_init, 1, none)
abbrev mX1_knows : KM := (yX1_knows, cX1_knows, 2, (some .boolean))
abbrev mX1_areTwo : KM := (yX1_areTwo, cX1_areTwo, 3, (some .boolean))
abbrev mX1_setKind : KM := (yX1_setKind, cX1_setKind, 3, none)
abbrev mX1_setTimes : KM := (yX1_setTimes, cX1_setTimes, 4, none)
abbrev mX1_join : KM := (yX1_join, cX1_join, 4, (some .int))
abbrev mX1_timesOf : KM := (yX1_timesOf, cX1_timesOf, 3, (some .int))
abbrev mX1_livesOf : KM := (yX1_livesOf, cX1_livesOf, 3, (some .int))
abbrev mX1_isUpIfHad : KM := (yX1_isUpIfHad, cX1_isUpIfHad, 4, (some .boolean))
abbrev mX1_isUp : KM := (yX1_isUp, cX1_isUp, 3, (some .boolean))
abbrev mX1_howManyUp : KM := (yX1_howManyUp, cX1_howManyUp, 4, (some .int))
abbrev mX1_upDays : KM := (yX1_upDays, cX1_upDays, 4, (some .int))
abbrev mX1_howManyDays : KM := (yX1_howManyDays, cX1_howManyDays, 4, (some .int))
abbrev mX1_copyFrom : KM := (yX1_copyFrom, cX1_copyFrom, 2, none)
abbrev mX2_init : KM := (yX2_init, cX2_init, 1, none)
abbrev mX2_join : KM := (yX2_join, cX2_join, 5, (some .int))
abbrev mX2_isOf : KM := (yX2_isOf, cX2_isOf, 3, (some .boolean))
abbrev mX2_isKept : KM := (yX2_isKept, cX2_isKept, 4, (some .boolean))
abbrev mX2_howManyUnkept : KM := (yX2_howManyUnkept, cX2_howManyUnkept, 4, (some .int))
abbrev mX2_copyFrom : KM := (yX2_copyFrom, cX2_copyFrom, 2, none)
abbrev mX4_init : KM := (yX4_init, cX4_init, 2, none)
abbrev mX3_init : KM := (yX3_init, cX3_init, 1, none)
abbrev mX4_copyFrom : KM := (yX4_copyFrom, cX4_copyFrom, 2, none)
abbrev mX3_here : KM := (yX3_here, cX3_here, 1, (some .int))
abbrev mX3_isSignOf : KM := (yX3_isSignOf, cX3_isSignOf, 2, (some .boolean))
abbrev mX4_add : KM := (yX4_add, cX4_add, 2, none)
abbrev mX3_nameHere : KM := (yX3_nameHere, cX3_nameHere, 2, (some .int))
abbrev mX3_isDigit : KM := (yX3_isDigit, cX3_isDigit, 1, (some .boolean))
abbrev mX3_readNumber : KM := (yX3_readNumber, cX3_readNumber, 3, none)
abbrev mX3_stopHere : KM := (yX3_stopHere, cX3_stopHere, 1, none)
abbrev mX3_readClosing : KM := (yX3_readClosing, cX3_readClosing, 1, none)
abbrev mX3_readLevel : KM := (yX3_readLevel, cX3_readLevel, 6, none)
abbrev mX3_readQ : KM := (yX3_readQ, cX3_readQ, 3, none)
abbrev mX3_faultOf : KM := (yX3_faultOf, cX3_faultOf, 3, (some .int))
abbrev mX5_init : KM := (yX5_init, cX5_init, 1, none)
abbrev mX5_isSheet : KM := (yX5_isSheet, cX5_isSheet, 1, (some .boolean))
abbrev mX5_isMissing : KM := (yX5_isMissing, cX5_isMissing, 2, (some .boolean))
abbrev mX5_renew : KM := (yX5_renew, cX5_renew, 5, none)
abbrev mX5_numberAt : KM := (yX5_numberAt, cX5_numberAt, 3, (some .int))
abbrev mX5_setNumber : KM := (yX5_setNumber, cX5_setNumber, 5, none)
abbrev mX5_stand : KM := (yX5_stand, cX5_stand, 4, (some .boolean))
abbrev mX5_copyNumbers : KM := (yX5_copyNumbers, cX5_copyNumbers, 8, none)
abbrev mX6_init : KM := (yX6_init, cX6_init, 1, none)
abbrev mX6_isThere : KM := (yX6_isThere, cX6_isThere, 1, (some .boolean))
abbrev mX6_operand : KM := (yX6_operand, cX6_operand, 4, (some .int))
abbrev mX6_joined : KM := (yX6_joined, cX6_joined, 3, (some .int))
abbrev mX6_gives : KM := (yX6_gives, cX6_gives, 7, (some .int))
abbrev mX7_init : KM := (yX7_init, cX7_init, 1, none)
abbrev mJ6_bitCount_0f7a4 : KM := (yJ6_bitCount_0f7a4, cJ6_bitCount_0f7a4, 1, (some .int))
abbrev mX7_daysKeptBy : KM := (yX7_daysKeptBy, cX7_daysKeptBy, 4, (some .int))
abbrev mX7_fewestKeepers : KM := (yX7_fewestKeepers, cX7_fewestKeepers, 5, (some .int))
abbrev mX9_held : KM := (yX9_held, cX9_held, 2, (some .int))
abbrev mX9_useGives : KM := (yX9_useGives, cX9_useGives, 6, (some .int))
abbrev mX9_priceOf : KM := (yX9_priceOf, cX9_priceOf, 3, (some .int))
abbrev mX7_isLess : KM := (yX7_isLess, cX7_isLess, 3, (some .boolean))
abbrev mX7_leastOf : KM := (yX7_leastOf, cX7_leastOf, 4, (some .int))
abbrev mX7_howManyBought : KM := (yX7_howManyBought, cX7_howManyBought, 9, (some .int))
abbrev mX7_harmOf : KM := (yX7_harmOf, cX7_harmOf, 8, (some .int))
abbrev mX7_takenByBailiffs : KM := (yX7_takenByBailiffs, cX7_takenByBailiffs, 8, (some .int))
abbrev mX7_sumOver : KM := (yX7_sumOver, cX7_sumOver, 4, (some .int))
abbrev mX7_pricesOf : KM := (yX7_pricesOf, cX7_pricesOf, 2, (some .int))
abbrev mX7_harmsOf : KM := (yX7_harmsOf, cX7_harmsOf, 2, (some .int))
abbrev mX7_memberOf : KM := (yX7_memberOf, cX7_memberOf, 4, (some .int))
abbrev mX7_commonDivisor : KM := (yX7_commonDivisor, cX7_commonDivisor, 2, (some .int))
abbrev mX8_init : KM := (yX8_init, cX8_init, 1, none)
abbrev mX8_startAs : KM := (yX8_startAs, cX8_startAs, 3, none)
abbrev mX8_part : KM := (yX8_part, cX8_part, 3, (some .int))
abbrev mX8_own : KM := (yX8_own, cX8_own, 4, (some .int))
abbrev mX8_partAndTrade : KM := (yX8_partAndTrade, cX8_partAndTrade, 5, (some .int))
abbrev mX8_sound : KM := (yX8_sound, cX8_sound, 9, (some .int))
abbrev mX9_init : KM := (yX9_init, cX9_init, 1, none)
abbrev mX9_dayIn : KM := (yX9_dayIn, cX9_dayIn, 2, (some .int))
abbrev mX9_textOf : KM := (yX9_textOf, cX9_textOf, 2, (some (.object "SoldDays$Text")))
abbrev mX9_dayCanPass : KM := (yX9_dayCanPass, cX9_dayCanPass, 4, (some .boolean))
abbrev mX9_canPay : KM := (yX9_canPay, cX9_canPay, 4, (some .boolean))
abbrev mX9_saleCanBe : KM := (yX9_saleCanBe, cX9_saleCanBe, 4, (some .boolean))
abbrev mX9_weekCanBe : KM := (yX9_weekCanBe, cX9_weekCanBe, 6, (some .boolean))
abbrev mX9_makeSale : KM := (yX9_makeSale, cX9_makeSale, 5, (some .int))
abbrev mX9_draw : KM := (yX9_draw, cX9_draw, 1, (some .int))
abbrev mX9_saleByDraws : KM := (yX9_saleByDraws, cX9_saleByDraws, 4, (some .int))
abbrev mX9_older : KM := (yX9_older, cX9_older, 2, (some .int))
abbrev mX9_poorer : KM := (yX9_poorer, cX9_poorer, 2, (some .int))
abbrev mX9_oneMore : KM := (yX9_oneMore, cX9_oneMore, 1, (some .int))
abbrev mX9_letOneLive : KM := (yX9_letOneLive, cX9_letOneLive, 7, none)
abbrev mX9_settlePromises : KM := (yX9_settlePromises, cX9_settlePromises, 3, none)
abbrev mX9_letDayGo : KM := (yX9_letDayGo, cX9_letDayGo, 5, (some .int))
abbrev mX9_copyFrom : KM := (yX9_copyFrom, cX9_copyFrom, 2, none)
abbrev mX10_init : KM := (yX10_init, cX10_init, 1, none)
abbrev mX10_error : KM := (yX10_error, cX10_error, 2, (some .int))
abbrev mX10_isDay : KM := (yX10_isDay, cX10_isDay, 1, (some .boolean))
abbrev mX10_isUse : KM := (yX10_isUse, cX10_isUse, 1, (some .boolean))
abbrev mX10_isWithin : KM := (yX10_isWithin, cX10_isWithin, 3, (some .boolean))
abbrev mX10_person : KM := (yX10_person, cX10_person, 2, (some .int))
abbrev mX10_personIs : KM := (yX10_personIs, cX10_personIs, 4, (some .int))
abbrev mX10_become : KM := (yX10_become, cX10_become, 4, (some .int))
abbrev mX10_as : KM := (yX10_as, cX10_as, 3, (some .int))
abbrev mX10_change : KM := (yX10_change, cX10_change, 6, (some .int))
abbrev mX10_has : KM := (yX10_has, cX10_has, 3, (some .int))
abbrev mX10_give : KM := (yX10_give, cX10_give, 5, (some .int))
abbrev mX10_price : KM := (yX10_price, cX10_price, 3, (some .int))
abbrev mX10_sell : KM := (yX10_sell, cX10_sell, 4, (some .int))
abbrev mX10_sellWeek : KM := (yX10_sellWeek, cX10_sellWeek, 6, (some .int))
abbrev mX10_promise : KM := (yX10_promise, cX10_promise, 4, (some .int))
abbrev mX10_promiseIs : KM := (yX10_promiseIs, cX10_promiseIs, 4, (some .int))
abbrev mX10_feed : KM := (yX10_feed, cX10_feed, 5, (some .int))
abbrev mX10_text : KM := (yX10_text, cX10_text, 3, (some .int))
abbrev mX10_untell : KM := (yX10_untell, cX10_untell, 3, (some .int))
abbrev mX10_law : KM := (yX10_law, cX10_law, 5, (some .int))
abbrev mX10_days : KM := (yX10_days, cX10_days, 4, (some .int))
abbrev mX10_loose : KM := (yX10_loose, cX10_loose, 4, (some .int))
abbrev mX10_seed : KM := (yX10_seed, cX10_seed, 3, (some .int))
abbrev mX10_then : KM := (yX10_then, cX10_then, 9, (some .int))
abbrev mX10_alone : KM := (yX10_alone, cX10_alone, 4, (some .int))
abbrev mX10_meet : KM := (yX10_meet, cX10_meet, 5, (some .int))
abbrev mX10_keepers : KM := (yX10_keepers, cX10_keepers, 3, (some .int))
abbrev mX10_buys : KM := (yX10_buys, cX10_buys, 3, (some .int))
abbrev mX10_bailiffs : KM := (yX10_bailiffs, cX10_bailiffs, 5, (some .int))
abbrev mX10_odds : KM := (yX10_odds, cX10_odds, 4, (some .int))
abbrev mX10_livesAsTold : KM := (yX10_livesAsTold, cX10_livesAsTold, 4, (some .boolean))
abbrev mX10_fits : KM := (yX10_fits, cX10_fits, 4, (some .int))
abbrev mX10_voice : KM := (yX10_voice, cX10_voice, 5, (some .int))
abbrev mX10_body : KM := (yX10_body, cX10_body, 2, (some .int))
abbrev mX10_sheet : KM := (yX10_sheet, cX10_sheet, 4, (some .int))
abbrev mX10_put : KM := (yX10_put, cX10_put, 4, (some .int))
abbrev mX10_move : KM := (yX10_move, cX10_move, 6, (some .int))
abbrev mX10_funds : KM := (yX10_funds, cX10_funds, 5, (some .int))
abbrev mX10_judge : KM := (yX10_judge, cX10_judge, 4, (some .int))
abbrev mX10_image : KM := (yX10_image, cX10_image, 1, (some .int))
abbrev mX10_restore : KM := (yX10_restore, cX10_restore, 1, (some .int))
abbrev mX10_tell : KM := (yX10_tell, cX10_tell, 2, (some .int))
abbrev mX10_check : KM := (yX10_check, cX10_check, 3, (some .int))
abbrev mX10_count : KM := (yX10_count, cX10_count, 2, (some .int))
abbrev mX10_told : KM := (yX10_told, cX10_told, 2, (some .int))
abbrev mX11_init : KM := (yX11_init, cX11_init, 1, none)
abbrev mX11_error : KM := (yX11_error, cX11_error, 2, (some .int))
abbrev mX11_in : KM := (yX11_in, cX11_in, 3, (some .boolean))
abbrev mX11_held : KM := (yX11_held, cX11_held, 3, (some .int))
abbrev mX11_copyAll : KM := (yX11_copyAll, cX11_copyAll, 3, none)
abbrev mX11_bits : KM := (yX11_bits, cX11_bits, 3, (some .int))
abbrev mX11_isPerson : KM := (yX11_isPerson, cX11_isPerson, 2, (some .boolean))
abbrev mX11_areTwo : KM := (yX11_areTwo, cX11_areTwo, 3, (some .boolean))
abbrev mX11_isDay : KM := (yX11_isDay, cX11_isDay, 1, (some .boolean))
abbrev mX11_becomes : KM := (yX11_becomes, cX11_becomes, 4, (some .int))
abbrev mX11_of : KM := (yX11_of, cX11_of, 3, (some .int))
abbrev mX11_lay : KM := (yX11_lay, cX11_lay, 4, none)
abbrev mX11_said : KM := (yX11_said, cX11_said, 3, (some .int))
abbrev mX11_counts : KM := (yX11_counts, cX11_counts, 2, none)
abbrev mX11_livesOf : KM := (yX11_livesOf, cX11_livesOf, 8, (some .int))
abbrev mX11_isUp : KM := (yX11_isUp, cX11_isUp, 3, (some .boolean))
abbrev mX11_manyUp : KM := (yX11_manyUp, cX11_manyUp, 4, (some .int))
abbrev mX11_isKept : KM := (yX11_isKept, cX11_isKept, 3, (some .boolean))
abbrev mX11_notKept : KM := (yX11_notKept, cX11_notKept, 3, (some .int))
abbrev mX11_isKm : KM := (yX11_isKm, cX11_isKm, 1, (some .boolean))
abbrev mX11_person : KM := (yX11_person, cX11_person, 4, (some .int))
abbrev mX11_personIs : KM := (yX11_personIs, cX11_personIs, 3, (some .int))
abbrev mX11_become : KM := (yX11_become, cX11_become, 3, (some .int))
abbrev mX11_as : KM := (yX11_as, cX11_as, 5, (some .int))
abbrev mX11_change : KM := (yX11_change, cX11_change, 4, (some .int))
abbrev mX11_has : KM := (yX11_has, cX11_has, 3, (some .int))
abbrev mX11_give : KM := (yX11_give, cX11_give, 4, (some .int))
abbrev mX11_twoOf : KM := (yX11_twoOf, cX11_twoOf, 3, (some .int))
abbrev mX11_works : KM := (yX11_works, cX11_works, 5, (some .int))
abbrev mX11_gives : KM := (yX11_gives, cX11_gives, 7, (some .int))
abbrev mX11_priceOf : KM := (yX11_priceOf, cX11_priceOf, 3, (some .int))
abbrev mX11_canSell : KM := (yX11_canSell, cX11_canSell, 5, (some .boolean))
abbrev mX11_sells : KM := (yX11_sells, cX11_sells, 5, (some .int))
abbrev mX11_price : KM := (yX11_price, cX11_price, 3, (some .int))
abbrev mX11_sell : KM := (yX11_sell, cX11_sell, 4, (some .int))
abbrev mX11_thinks : KM := (yX11_thinks, cX11_thinks, 1, none)
abbrev mX11_putsBack : KM := (yX11_putsBack, cX11_putsBack, 1, none)
abbrev mX11_sellWeek : KM := (yX11_sellWeek, cX11_sellWeek, 6, (some .int))
abbrev mX11_promise : KM := (yX11_promise, cX11_promise, 5, (some .int))
abbrev mX11_promiseIs : KM := (yX11_promiseIs, cX11_promiseIs, 3, (some .int))
abbrev mX11_feed : KM := (yX11_feed, cX11_feed, 5, (some .int))
abbrev mX11_look : KM := (yX11_look, cX11_look, 1, (some .int))
abbrev mX11_step : KM := (yX11_step, cX11_step, 3, none)
abbrev mX11_nameOf : KM := (yX11_nameOf, cX11_nameOf, 2, (some .int))
abbrev mX11_number : KM := (yX11_number, cX11_number, 3, none)
abbrev mX11_all : KM := (yX11_all, cX11_all, 1, none)
abbrev mX11_any : KM := (yX11_any, cX11_any, 1, none)
abbrev mX11_compares : KM := (yX11_compares, cX11_compares, 2, none)
abbrev mX11_one : KM := (yX11_one, cX11_one, 3, none)
abbrev mX11_opens : KM := (yX11_opens, cX11_opens, 2, none)
abbrev mX11_sum : KM := (yX11_sum, cX11_sum, 2, none)
abbrev mX11_times : KM := (yX11_times, cX11_times, 2, none)
abbrev mX11_text : KM := (yX11_text, cX11_text, 4, (some .int))
abbrev mX11_untell : KM := (yX11_untell, cX11_untell, 2, (some .int))
abbrev mX11_law : KM := (yX11_law, cX11_law, 5, (some .int))
abbrev mX11_lives : KM := (yX11_lives, cX11_lives, 4, none)
abbrev mX11_goes : KM := (yX11_goes, cX11_goes, 4, (some .int))
abbrev mX11_days : KM := (yX11_days, cX11_days, 4, (some .int))
abbrev mX11_draw : KM := (yX11_draw, cX11_draw, 1, (some .int))
abbrev mX11_drawn : KM := (yX11_drawn, cX11_drawn, 4, (some .int))
abbrev mX11_loose : KM := (yX11_loose, cX11_loose, 4, (some .int))
abbrev mX11_seed : KM := (yX11_seed, cX11_seed, 2, (some .int))
abbrev mX11_then : KM := (yX11_then, cX11_then, 5, (some .int))
abbrev mX11_alone : KM := (yX11_alone, cX11_alone, 4, (some .int))
abbrev mX11_meet : KM := (yX11_meet, cX11_meet, 5, (some .int))
abbrev mX11_doKeep : KM := (yX11_doKeep, cX11_doKeep, 5, (some .boolean))
abbrev mX11_keepers : KM := (yX11_keepers, cX11_keepers, 4, (some .int))
abbrev mX11_costing : KM := (yX11_costing, cX11_costing, 7, (some .int))
abbrev mX11_buys : KM := (yX11_buys, cX11_buys, 9, (some .int))
abbrev mX11_takes : KM := (yX11_takes, cX11_takes, 9, none)
abbrev mX11_bailiffs : KM := (yX11_bailiffs, cX11_bailiffs, 4, (some .int))
abbrev mX11_odds : KM := (yX11_odds, cX11_odds, 6, (some .int))
abbrev mX11_isSheet : KM := (yX11_isSheet, cX11_isSheet, 1, (some .boolean))
abbrev mX11_notThere : KM := (yX11_notThere, cX11_notThere, 2, (some .int))
abbrev mX11_fits : KM := (yX11_fits, cX11_fits, 7, (some .int))
abbrev mX11_begins : KM := (yX11_begins, cX11_begins, 2, none)
abbrev mX11_plainYawns : KM := (yX11_plainYawns, cX11_plainYawns, 3, (some .int))
abbrev mX11_studentYawns : KM := (yX11_studentYawns, cX11_studentYawns, 3, (some .int))
abbrev mX11_yawns : KM := (yX11_yawns, cX11_yawns, 3, (some .int))
abbrev mX11_plainTrades : KM := (yX11_plainTrades, cX11_plainTrades, 3, (some .int))
abbrev mX11_widowTrades : KM := (yX11_widowTrades, cX11_widowTrades, 3, (some .int))
abbrev mX11_trades : KM := (yX11_trades, cX11_trades, 3, (some .int))
abbrev mX11_plainAges : KM := (yX11_plainAges, cX11_plainAges, 3, (some .int))
abbrev mX11_ages : KM := (yX11_ages, cX11_ages, 3, (some .int))
abbrev mX11_plainParts : KM := (yX11_plainParts, cX11_plainParts, 4, (some .int))
abbrev mX11_parts : KM := (yX11_parts, cX11_parts, 4, (some .int))
abbrev mX11_voice : KM := (yX11_voice, cX11_voice, 5, (some .int))
abbrev mX11_body : KM := (yX11_body, cX11_body, 2, (some .int))
abbrev mX11_sheet : KM := (yX11_sheet, cX11_sheet, 5, (some .int))
abbrev mX11_put : KM := (yX11_put, cX11_put, 5, (some .int))
abbrev mX11_notMoved : KM := (yX11_notMoved, cX11_notMoved, 7, (some .int))
abbrev mX11_move : KM := (yX11_move, cX11_move, 9, (some .int))
abbrev mX11_funds : KM := (yX11_funds, cX11_funds, 4, (some .int))
abbrev mX11_judge : KM := (yX11_judge, cX11_judge, 4, (some .int))
abbrev mX11_image : KM := (yX11_image, cX11_image, 1, (some .int))
abbrev mX11_restore : KM := (yX11_restore, cX11_restore, 1, (some .int))
abbrev mX11_tell : KM := (yX11_tell, cX11_tell, 2, (some .int))
abbrev mX11_check : KM := (yX11_check, cX11_check, 3, (some .int))
abbrev mX11_count : KM := (yX11_count, cX11_count, 2, (some .int))
abbrev mX11_told : KM := (yX11_told, cX11_told, 2, (some .int))
abbrev mJ9_max_7cf53 : KM := (yJ9_max_7cf53, cJ9_max_7cf53, 2, (some .int))
abbrev mJ9_min_7cf53 : KM := (yJ9_min_7cf53, cJ9_min_7cf53, 2, (some .int))
end
section
theorem dX0_isKind_0 : decode cX0_isKind 0 = .ok (.iload_n 0, 1) := by decide +kernel
theorem dX0_isKind_1 : decode cX0_isKind 1 = .ok (.ifCond .lt 13, 3) := by decide +kernel
theorem dX0_isKind_4 : decode cX0_isKind 4 = .ok (.iload_n 0, 1) := by decide +kernel
theorem dX0_isKind_5 : decode cX0_isKind 5 = .ok (.bipush 7, 2) := by decide +kernel
theorem dX0_isKind_7 : decode cX0_isKind 7 = .ok (.if_icmp .ge 7, 3) := by decide +kernel
theorem dX0_isKind_10 : decode cX0_isKind 10 = .ok (.iconst 1, 1) := by decide +kernel
theorem dX0_isKind_11 : decode cX0_isKind 11 = .ok (.goto 4, 3) := by decide +kernel
theorem dX0_isKind_14 : decode cX0_isKind 14 = .ok (.iconst 0, 1) := by decide +kernel
theorem dX0_isKind_15 : decode cX0_isKind 15 = .ok (.ireturn, 1) := by decide +kernel
theorem dX0_isKindAndNumber_0 : decode cX0_isKindAndNumber 0 = .ok (.iload_n 0, 1) := by decide +kernel
theorem dX0_isKindAndNumber_1 : decode cX0_isKindAndNumber 1 = .ok (.ifCond .lt 13, 3) := by decide +kernel
theorem dX0_isKindAndNumber_4 : decode cX0_isKindAndNumber 4 = .ok (.iload_n 0, 1) := by decide +kernel
theorem dX0_isKindAndNumber_5 : decode cX0_isKindAndNumber 5 = .ok (.bipush 70, 2) := by decide +kernel
theorem dX0_isKindAndNumber_7 : decode cX0_isKindAndNumber 7 = .ok (.if_icmp .ge 7, 3) := by decide +kernel
theorem dX0_isKindAndNumber_10 : decode cX0_isKindAndNumber 10 = .ok (.iconst 1, 1) := by decide +kernel
theorem dX0_isKindAndNumber_11 : decode cX0_isKindAndNumber 11 = .ok (.goto 4, 3) := by decide +kernel
theorem dX0_isKindAndNumber_14 : decode cX0_isKindAndNumber 14 = .ok (.iconst 0, 1) := by decide +kernel
theorem dX0_isKindAndNumber_15 : decode cX0_isKindAndNumber 15 = .ok (.ireturn, 1) := by decide +kernel
theorem dX0_above_0 : decode cX0_above 0 = .ok (.iload_n 0, 1) := by decide +kernel
theorem dX0_above_1 : decode cX0_above 1 = .ok (.invokestatic 11, 3) := by decide +kernel
theorem dX0_above_4 : decode cX0_above 4 = .ok (.ifCond .eq 11, 3) := by decide +kernel
theorem dX0_above_7 : decode cX0_above 7 = .ok (.getstatic 15, 3) := by decide +kernel
theorem dX0_above_10 : decode cX0_above 10 = .ok (.iload_n 0, 1) := by decide +kernel
theorem dX0_above_11 : decode cX0_above 11 = .ok (.iaload, 1) := by decide +kernel
theorem dX0_above_12 : decode cX0_above 12 = .ok (.goto 4, 3) := by decide +kernel
theorem dX0_above_15 : decode cX0_above 15 = .ok (.iconst 0, 1) := by decide +kernel
theorem dX0_above_16 : decode cX0_above 16 = .ok (.ireturn, 1) := by decide +kernel
theorem dX0_isUnder_0 : decode cX0_isUnder 0 = .ok (.iload_n 0, 1) := by decide +kernel
theorem dX0_isUnder_1 : decode cX0_isUnder 1 = .ok (.istore_n 2, 1) := by decide +kernel
theorem dX0_isUnder_2 : decode cX0_isUnder 2 = .ok (.iconst 0, 1) := by decide +kernel
theorem dX0_isUnder_3 : decode cX0_isUnder 3 = .ok (.istore_n 3, 1) := by decide +kernel
theorem dX0_isUnder_4 : decode cX0_isUnder 4 = .ok (.iload_n 3, 1) := by decide +kernel
theorem dX0_isUnder_5 : decode cX0_isUnder 5 = .ok (.bipush 7, 2) := by decide +kernel
theorem dX0_isUnder_7 : decode cX0_isUnder 7 = .ok (.if_icmp .ge 19, 3) := by decide +kernel
theorem dX0_isUnder_10 : decode cX0_isUnder 10 = .ok (.iload_n 2, 1) := by decide +kernel
theorem dX0_isUnder_11 : decode cX0_isUnder 11 = .ok (.iload_n 1, 1) := by decide +kernel
theorem dX0_isUnder_12 : decode cX0_isUnder 12 = .ok (.if_icmp .eq 14, 3) := by decide +kernel
theorem dX0_isUnder_15 : decode cX0_isUnder 15 = .ok (.iload_n 2, 1) := by decide +kernel
theorem dX0_isUnder_16 : decode cX0_isUnder 16 = .ok (.invokestatic 19, 3) := by decide +kernel
theorem dX0_isUnder_19 : decode cX0_isUnder 19 = .ok (.istore_n 2, 1) := by decide +kernel
theorem dX0_isUnder_20 : decode cX0_isUnder 20 = .ok (.iinc 3 1, 3) := by decide +kernel
theorem dX0_isUnder_23 : decode cX0_isUnder 23 = .ok (.goto (-19), 3) := by decide +kernel
theorem dX0_isUnder_26 : decode cX0_isUnder 26 = .ok (.iload_n 2, 1) := by decide +kernel
theorem dX0_isUnder_27 : decode cX0_isUnder 27 = .ok (.iload_n 1, 1) := by decide +kernel
theorem dX0_isUnder_28 : decode cX0_isUnder 28 = .ok (.if_icmp .ne 7, 3) := by decide +kernel
theorem dX0_isUnder_31 : decode cX0_isUnder 31 = .ok (.iconst 1, 1) := by decide +kernel
theorem dX0_isUnder_32 : decode cX0_isUnder 32 = .ok (.goto 4, 3) := by decide +kernel
theorem dX0_isUnder_35 : decode cX0_isUnder 35 = .ok (.iconst 0, 1) := by decide +kernel
theorem dX0_isUnder_36 : decode cX0_isUnder 36 = .ok (.ireturn, 1) := by decide +kernel
theorem dX0_speaker_0 : decode cX0_speaker 0 = .ok (.iload_n 0, 1) := by decide +kernel
theorem dX0_speaker_1 : decode cX0_speaker 1 = .ok (.istore_n 2, 1) := by decide +kernel
theorem dX0_speaker_2 : decode cX0_speaker 2 = .ok (.iconst 0, 1) := by decide +kernel
theorem dX0_speaker_3 : decode cX0_speaker 3 = .ok (.istore_n 3, 1) := by decide +kernel
theorem dX0_speaker_4 : decode cX0_speaker 4 = .ok (.iload_n 3, 1) := by decide +kernel
theorem dX0_speaker_5 : decode cX0_speaker 5 = .ok (.bipush 7, 2) := by decide +kernel
theorem dX0_speaker_7 : decode cX0_speaker 7 = .ok (.if_icmp .ge 22, 3) := by decide +kernel
theorem dX0_speaker_10 : decode cX0_speaker 10 = .ok (.iload_n 2, 1) := by decide +kernel
theorem dX0_speaker_11 : decode cX0_speaker 11 = .ok (.iload_n 1, 1) := by decide +kernel
theorem dX0_speaker_12 : decode cX0_speaker 12 = .ok (.invokestatic 23, 3) := by decide +kernel
theorem dX0_speaker_15 : decode cX0_speaker 15 = .ok (.ifCond .ne 14, 3) := by decide +kernel
theorem dX0_speaker_18 : decode cX0_speaker 18 = .ok (.iload_n 2, 1) := by decide +kernel
theorem dX0_speaker_19 : decode cX0_speaker 19 = .ok (.invokestatic 19, 3) := by decide +kernel
theorem dX0_speaker_22 : decode cX0_speaker 22 = .ok (.istore_n 2, 1) := by decide +kernel
theorem dX0_speaker_23 : decode cX0_speaker 23 = .ok (.iinc 3 1, 3) := by decide +kernel
theorem dX0_speaker_26 : decode cX0_speaker 26 = .ok (.goto (-22), 3) := by decide +kernel
theorem dX0_speaker_29 : decode cX0_speaker 29 = .ok (.iload_n 2, 1) := by decide +kernel
theorem dX0_speaker_30 : decode cX0_speaker 30 = .ok (.ireturn, 1) := by decide +kernel
theorem dX0_bodyOf_0 : decode cX0_bodyOf 0 = .ok (.iload_n 0, 1) := by decide +kernel
theorem dX0_bodyOf_1 : decode cX0_bodyOf 1 = .ok (.invokestatic 11, 3) := by decide +kernel
theorem dX0_bodyOf_4 : decode cX0_bodyOf 4 = .ok (.ifCond .eq 24, 3) := by decide +kernel
theorem dX0_bodyOf_7 : decode cX0_bodyOf 7 = .ok (.iload_n 1, 1) := by decide +kernel
theorem dX0_bodyOf_8 : decode cX0_bodyOf 8 = .ok (.ifCond .lt 20, 3) := by decide +kernel
theorem dX0_bodyOf_11 : decode cX0_bodyOf 11 = .ok (.iload_n 1, 1) := by decide +kernel
theorem dX0_bodyOf_12 : decode cX0_bodyOf 12 = .ok (.iconst 4, 1) := by decide +kernel
theorem dX0_bodyOf_13 : decode cX0_bodyOf 13 = .ok (.if_icmp .ge 15, 3) := by decide +kernel
theorem dX0_bodyOf_16 : decode cX0_bodyOf 16 = .ok (.getstatic 27, 3) := by decide +kernel
theorem dX0_bodyOf_19 : decode cX0_bodyOf 19 = .ok (.iload_n 0, 1) := by decide +kernel
theorem dX0_bodyOf_20 : decode cX0_bodyOf 20 = .ok (.iconst 4, 1) := by decide +kernel
theorem dX0_bodyOf_21 : decode cX0_bodyOf 21 = .ok (.imul, 1) := by decide +kernel
theorem dX0_bodyOf_22 : decode cX0_bodyOf 22 = .ok (.iload_n 1, 1) := by decide +kernel
theorem dX0_bodyOf_23 : decode cX0_bodyOf 23 = .ok (.iadd, 1) := by decide +kernel
theorem dX0_bodyOf_24 : decode cX0_bodyOf 24 = .ok (.iaload, 1) := by decide +kernel
theorem dX0_bodyOf_25 : decode cX0_bodyOf 25 = .ok (.goto 4, 3) := by decide +kernel
theorem dX0_bodyOf_28 : decode cX0_bodyOf 28 = .ok (.iconst 0, 1) := by decide +kernel
theorem dX0_bodyOf_29 : decode cX0_bodyOf 29 = .ok (.ireturn, 1) := by decide +kernel
theorem dX0_lives_0 : decode cX0_lives 0 = .ok (.iload_n 3, 1) := by decide +kernel
theorem dX0_lives_1 : decode cX0_lives 1 = .ok (.iload_n 1, 1) := by decide +kernel
theorem dX0_lives_2 : decode cX0_lives 2 = .ok (.bipush 7, 2) := by decide +kernel
theorem dX0_lives_4 : decode cX0_lives 4 = .ok (.irem, 1) := by decide +kernel
theorem dX0_lives_5 : decode cX0_lives 5 = .ok (.if_icmp .ne 7, 3) := by decide +kernel
theorem dX0_lives_8 : decode cX0_lives 8 = .ok (.iconst 0, 1) := by decide +kernel
theorem dX0_lives_9 : decode cX0_lives 9 = .ok (.goto 4, 3) := by decide +kernel
theorem dX0_lives_12 : decode cX0_lives 12 = .ok (.iload_n 2, 1) := by decide +kernel
theorem dX0_lives_13 : decode cX0_lives 13 = .ok (.istore 4, 2) := by decide +kernel
theorem dX0_lives_15 : decode cX0_lives 15 = .ok (.iload_n 2, 1) := by decide +kernel
theorem dX0_lives_16 : decode cX0_lives 16 = .ok (.iconst 1, 1) := by decide +kernel
theorem dX0_lives_17 : decode cX0_lives 17 = .ok (.if_icmp .le 9, 3) := by decide +kernel
theorem dX0_lives_20 : decode cX0_lives 20 = .ok (.iload_n 2, 1) := by decide +kernel
theorem dX0_lives_21 : decode cX0_lives 21 = .ok (.iconst 1, 1) := by decide +kernel
theorem dX0_lives_22 : decode cX0_lives 22 = .ok (.iadd, 1) := by decide +kernel
theorem dX0_lives_23 : decode cX0_lives 23 = .ok (.goto 4, 3) := by decide +kernel
theorem dX0_lives_26 : decode cX0_lives 26 = .ok (.iload_n 2, 1) := by decide +kernel
theorem dX0_lives_27 : decode cX0_lives 27 = .ok (.istore 5, 2) := by decide +kernel
theorem dX0_lives_29 : decode cX0_lives 29 = .ok (.iload_n 0, 1) := by decide +kernel
theorem dX0_lives_30 : decode cX0_lives 30 = .ok (.tableswitch 87 1 6 #[38, 41, 44, 50, 70, 85], 38) := by decide +kernel
theorem dX0_lives_68 : decode cX0_lives 68 = .ok (.iload 4, 2) := by decide +kernel
theorem dX0_lives_70 : decode cX0_lives 70 = .ok (.ireturn, 1) := by decide +kernel
theorem dX0_lives_71 : decode cX0_lives 71 = .ok (.iload 5, 2) := by decide +kernel
theorem dX0_lives_73 : decode cX0_lives 73 = .ok (.ireturn, 1) := by decide +kernel
theorem dX0_lives_74 : decode cX0_lives 74 = .ok (.iload_n 2, 1) := by decide +kernel
theorem dX0_lives_75 : decode cX0_lives 75 = .ok (.iconst 1, 1) := by decide +kernel
theorem dX0_lives_76 : decode cX0_lives 76 = .ok (.iadd, 1) := by decide +kernel
theorem dX0_lives_77 : decode cX0_lives 77 = .ok (.iconst 2, 1) := by decide +kernel
theorem dX0_lives_78 : decode cX0_lives 78 = .ok (.idiv, 1) := by decide +kernel
theorem dX0_lives_79 : decode cX0_lives 79 = .ok (.ireturn, 1) := by decide +kernel
theorem dX0_lives_80 : decode cX0_lives 80 = .ok (.iload_n 3, 1) := by decide +kernel
theorem dX0_lives_81 : decode cX0_lives 81 = .ok (.iload_n 1, 1) := by decide +kernel
theorem dX0_lives_82 : decode cX0_lives 82 = .ok (.iconst 1, 1) := by decide +kernel
theorem dX0_lives_83 : decode cX0_lives 83 = .ok (.iadd, 1) := by decide +kernel
theorem dX0_lives_84 : decode cX0_lives 84 = .ok (.bipush 7, 2) := by decide +kernel
theorem dX0_lives_86 : decode cX0_lives 86 = .ok (.irem, 1) := by decide +kernel
theorem dX0_lives_87 : decode cX0_lives 87 = .ok (.if_icmp .ne 10, 3) := by decide +kernel
theorem dX0_lives_90 : decode cX0_lives 90 = .ok (.iload 4, 2) := by decide +kernel
theorem dX0_lives_92 : decode cX0_lives 92 = .ok (.iconst 2, 1) := by decide +kernel
theorem dX0_lives_93 : decode cX0_lives 93 = .ok (.imul, 1) := by decide +kernel
theorem dX0_lives_94 : decode cX0_lives 94 = .ok (.goto 5, 3) := by decide +kernel
theorem dX0_lives_97 : decode cX0_lives 97 = .ok (.iload 4, 2) := by decide +kernel
theorem dX0_lives_99 : decode cX0_lives 99 = .ok (.ireturn, 1) := by decide +kernel
theorem dX0_lives_100 : decode cX0_lives 100 = .ok (.iload_n 3, 1) := by decide +kernel
theorem dX0_lives_101 : decode cX0_lives 101 = .ok (.iconst 4, 1) := by decide +kernel
theorem dX0_lives_102 : decode cX0_lives 102 = .ok (.if_icmp .le 10, 3) := by decide +kernel
theorem dX0_lives_105 : decode cX0_lives 105 = .ok (.iload 5, 2) := by decide +kernel
theorem dX0_lives_107 : decode cX0_lives 107 = .ok (.iload_n 1, 1) := by decide +kernel
theorem dX0_lives_108 : decode cX0_lives 108 = .ok (.iadd, 1) := by decide +kernel
theorem dX0_lives_109 : decode cX0_lives 109 = .ok (.goto 5, 3) := by decide +kernel
theorem dX0_lives_112 : decode cX0_lives 112 = .ok (.iload 5, 2) := by decide +kernel
theorem dX0_lives_114 : decode cX0_lives 114 = .ok (.ireturn, 1) := by decide +kernel
theorem dX0_lives_115 : decode cX0_lives 115 = .ok (.iconst 1, 1) := by decide +kernel
theorem dX0_lives_116 : decode cX0_lives 116 = .ok (.ireturn, 1) := by decide +kernel
theorem dX0_lives_117 : decode cX0_lives 117 = .ok (.iload_n 2, 1) := by decide +kernel
theorem dX0_lives_118 : decode cX0_lives 118 = .ok (.ireturn, 1) := by decide +kernel
theorem dX1_init_0 : decode cX1_init 0 = .ok (.aload_n 0, 1) := by decide +kernel
theorem dX1_init_1 : decode cX1_init 1 = .ok (.invokespecial 3, 3) := by decide +kernel
theorem dX1_init_4 : decode cX1_init 4 = .ok (.aload_n 0, 1) := by decide +kernel
theorem dX1_init_5 : decode cX1_init 5 = .ok (.bipush 6, 2) := by decide +kernel
theorem dX1_init_7 : decode cX1_init 7 = .ok (.newarray .int, 2) := by decide +kernel
theorem dX1_init_9 : decode cX1_init 9 = .ok (.putfield 9, 3) := by decide +kernel
theorem dX1_init_12 : decode cX1_init 12 = .ok (.aload_n 0, 1) := by decide +kernel
theorem dX1_init_13 : decode cX1_init 13 = .ok (.bipush 6, 2) := by decide +kernel
theorem dX1_init_15 : decode cX1_init 15 = .ok (.newarray .int, 2) := by decide +kernel
theorem dX1_init_17 : decode cX1_init 17 = .ok (.putfield 15, 3) := by decide +kernel
theorem dX1_init_20 : decode cX1_init 20 = .ok (.aload_n 0, 1) := by decide +kernel
theorem dX1_init_21 : decode cX1_init 21 = .ok (.bipush 6, 2) := by decide +kernel
theorem dX1_init_23 : decode cX1_init 23 = .ok (.newarray .int, 2) := by decide +kernel
theorem dX1_init_25 : decode cX1_init 25 = .ok (.putfield 18, 3) := by decide +kernel
theorem dX1_init_28 : decode cX1_init 28 = .ok (.aload_n 0, 1) := by decide +kernel
theorem dX1_init_29 : decode cX1_init 29 = .ok (.bipush 6, 2) := by decide +kernel
theorem dX1_init_31 : decode cX1_init 31 = .ok (.newarray .int, 2) := by decide +kernel
theorem dX1_init_33 : decode cX1_init 33 = .ok (.putfield 21, 3) := by decide +kernel
theorem dX1_init_36 : decode cX1_init 36 = .ok (.aload_n 0, 1) := by decide +kernel
theorem dX1_init_37 : decode cX1_init 37 = .ok (.sipush 168, 3) := by decide +kernel
theorem dX1_init_40 : decode cX1_init 40 = .ok (.newarray .int, 2) := by decide +kernel
theorem dX1_init_42 : decode cX1_init 42 = .ok (.putfield 24, 3) := by decide +kernel
theorem dX1_init_45 : decode cX1_init 45 = .ok (.aload_n 0, 1) := by decide +kernel
theorem dX1_init_46 : decode cX1_init 46 = .ok (.iconst 0, 1) := by decide +kernel
theorem dX1_init_47 : decode cX1_init 47 = .ok (.putfield 27, 3) := by decide +kernel
theorem dX1_init_50 : decode cX1_init 50 = .ok (.return_, 1) := by decide +kernel
theorem dX1_knows_0 : decode cX1_knows 0 = .ok (.iload_n 1, 1) := by decide +kernel
theorem dX1_knows_1 : decode cX1_knows 1 = .ok (.ifCond .lt 15, 3) := by decide +kernel
theorem dX1_knows_4 : decode cX1_knows 4 = .ok (.iload_n 1, 1) := by decide +kernel
theorem dX1_knows_5 : decode cX1_knows 5 = .ok (.aload_n 0, 1) := by decide +kernel
theorem dX1_knows_6 : decode cX1_knows 6 = .ok (.getfield 27, 3) := by decide +kernel
theorem dX1_knows_9 : decode cX1_knows 9 = .ok (.if_icmp .ge 7, 3) := by decide +kernel
theorem dX1_knows_12 : decode cX1_knows 12 = .ok (.iconst 1, 1) := by decide +kernel
theorem dX1_knows_13 : decode cX1_knows 13 = .ok (.goto 4, 3) := by decide +kernel
theorem dX1_knows_16 : decode cX1_knows 16 = .ok (.iconst 0, 1) := by decide +kernel
theorem dX1_knows_17 : decode cX1_knows 17 = .ok (.ireturn, 1) := by decide +kernel
theorem dX1_areTwo_0 : decode cX1_areTwo 0 = .ok (.aload_n 0, 1) := by decide +kernel
theorem dX1_areTwo_1 : decode cX1_areTwo 1 = .ok (.iload_n 1, 1) := by decide +kernel
theorem dX1_areTwo_2 : decode cX1_areTwo 2 = .ok (.invokevirtual 31, 3) := by decide +kernel
theorem dX1_areTwo_5 : decode cX1_areTwo 5 = .ok (.ifCond .eq 20, 3) := by decide +kernel
theorem dX1_areTwo_8 : decode cX1_areTwo 8 = .ok (.aload_n 0, 1) := by decide +kernel
theorem dX1_areTwo_9 : decode cX1_areTwo 9 = .ok (.iload_n 2, 1) := by decide +kernel
theorem dX1_areTwo_10 : decode cX1_areTwo 10 = .ok (.invokevirtual 31, 3) := by decide +kernel
theorem dX1_areTwo_13 : decode cX1_areTwo 13 = .ok (.ifCond .eq 12, 3) := by decide +kernel
theorem dX1_areTwo_16 : decode cX1_areTwo 16 = .ok (.iload_n 1, 1) := by decide +kernel
theorem dX1_areTwo_17 : decode cX1_areTwo 17 = .ok (.iload_n 2, 1) := by decide +kernel
theorem dX1_areTwo_18 : decode cX1_areTwo 18 = .ok (.if_icmp .eq 7, 3) := by decide +kernel
theorem dX1_areTwo_21 : decode cX1_areTwo 21 = .ok (.iconst 1, 1) := by decide +kernel
theorem dX1_areTwo_22 : decode cX1_areTwo 22 = .ok (.goto 4, 3) := by decide +kernel
theorem dX1_areTwo_25 : decode cX1_areTwo 25 = .ok (.iconst 0, 1) := by decide +kernel
theorem dX1_areTwo_26 : decode cX1_areTwo 26 = .ok (.ireturn, 1) := by decide +kernel
theorem dX1_join_0 : decode cX1_join 0 = .ok (.aload_n 0, 1) := by decide +kernel
theorem dX1_join_1 : decode cX1_join 1 = .ok (.getfield 27, 3) := by decide +kernel
theorem dX1_join_4 : decode cX1_join 4 = .ok (.istore_n 2, 1) := by decide +kernel
theorem dX1_join_5 : decode cX1_join 5 = .ok (.aload_n 0, 1) := by decide +kernel
theorem dX1_join_6 : decode cX1_join 6 = .ok (.dup, 1) := by decide +kernel
theorem dX1_join_7 : decode cX1_join 7 = .ok (.getfield 27, 3) := by decide +kernel
theorem dX1_join_10 : decode cX1_join 10 = .ok (.iconst 1, 1) := by decide +kernel
theorem dX1_join_11 : decode cX1_join 11 = .ok (.iadd, 1) := by decide +kernel
theorem dX1_join_12 : decode cX1_join 12 = .ok (.putfield 27, 3) := by decide +kernel
theorem dX1_join_15 : decode cX1_join 15 = .ok (.aload_n 0, 1) := by decide +kernel
theorem dX1_join_16 : decode cX1_join 16 = .ok (.iload_n 2, 1) := by decide +kernel
theorem dX1_join_17 : decode cX1_join 17 = .ok (.iload_n 1, 1) := by decide +kernel
theorem dX1_join_18 : decode cX1_join 18 = .ok (.invokevirtual 35, 3) := by decide +kernel
theorem dX1_join_21 : decode cX1_join 21 = .ok (.aload_n 0, 1) := by decide +kernel
theorem dX1_join_22 : decode cX1_join 22 = .ok (.getfield 18, 3) := by decide +kernel
theorem dX1_join_25 : decode cX1_join 25 = .ok (.iload_n 2, 1) := by decide +kernel
theorem dX1_join_26 : decode cX1_join 26 = .ok (.iconst 0, 1) := by decide +kernel
theorem dX1_join_27 : decode cX1_join 27 = .ok (.iastore, 1) := by decide +kernel
theorem dX1_join_28 : decode cX1_join 28 = .ok (.aload_n 0, 1) := by decide +kernel
theorem dX1_join_29 : decode cX1_join 29 = .ok (.getfield 21, 3) := by decide +kernel
theorem dX1_join_32 : decode cX1_join 32 = .ok (.iload_n 2, 1) := by decide +kernel
theorem dX1_join_33 : decode cX1_join 33 = .ok (.bipush 100, 2) := by decide +kernel
theorem dX1_join_35 : decode cX1_join 35 = .ok (.iastore, 1) := by decide +kernel
theorem dX1_join_36 : decode cX1_join 36 = .ok (.iconst 0, 1) := by decide +kernel
theorem dX1_join_37 : decode cX1_join 37 = .ok (.istore_n 3, 1) := by decide +kernel
theorem dX1_join_38 : decode cX1_join 38 = .ok (.iload_n 3, 1) := by decide +kernel
theorem dX1_join_39 : decode cX1_join 39 = .ok (.bipush 28, 2) := by decide +kernel
theorem dX1_join_41 : decode cX1_join 41 = .ok (.if_icmp .ge 16, 3) := by decide +kernel
theorem dX1_join_44 : decode cX1_join 44 = .ok (.aload_n 0, 1) := by decide +kernel
theorem dX1_join_45 : decode cX1_join 45 = .ok (.iload_n 2, 1) := by decide +kernel
theorem dX1_join_46 : decode cX1_join 46 = .ok (.iload_n 3, 1) := by decide +kernel
theorem dX1_join_47 : decode cX1_join 47 = .ok (.iconst 1, 1) := by decide +kernel
theorem dX1_join_48 : decode cX1_join 48 = .ok (.invokevirtual 39, 3) := by decide +kernel
theorem dX1_join_51 : decode cX1_join 51 = .ok (.iinc 3 1, 3) := by decide +kernel
theorem dX1_join_54 : decode cX1_join 54 = .ok (.goto (-16), 3) := by decide +kernel
theorem dX1_join_57 : decode cX1_join 57 = .ok (.iload_n 2, 1) := by decide +kernel
theorem dX1_join_58 : decode cX1_join 58 = .ok (.ireturn, 1) := by decide +kernel
theorem dX1_setKind_0 : decode cX1_setKind 0 = .ok (.aload_n 0, 1) := by decide +kernel
theorem dX1_setKind_1 : decode cX1_setKind 1 = .ok (.getfield 9, 3) := by decide +kernel
theorem dX1_setKind_4 : decode cX1_setKind 4 = .ok (.iload_n 1, 1) := by decide +kernel
theorem dX1_setKind_5 : decode cX1_setKind 5 = .ok (.iload_n 2, 1) := by decide +kernel
theorem dX1_setKind_6 : decode cX1_setKind 6 = .ok (.bipush 10, 2) := by decide +kernel
theorem dX1_setKind_8 : decode cX1_setKind 8 = .ok (.idiv, 1) := by decide +kernel
theorem dX1_setKind_9 : decode cX1_setKind 9 = .ok (.iastore, 1) := by decide +kernel
theorem dX1_setKind_10 : decode cX1_setKind 10 = .ok (.aload_n 0, 1) := by decide +kernel
theorem dX1_setKind_11 : decode cX1_setKind 11 = .ok (.getfield 15, 3) := by decide +kernel
theorem dX1_setKind_14 : decode cX1_setKind 14 = .ok (.iload_n 1, 1) := by decide +kernel
theorem dX1_setKind_15 : decode cX1_setKind 15 = .ok (.iload_n 2, 1) := by decide +kernel
theorem dX1_setKind_16 : decode cX1_setKind 16 = .ok (.bipush 10, 2) := by decide +kernel
theorem dX1_setKind_18 : decode cX1_setKind 18 = .ok (.irem, 1) := by decide +kernel
theorem dX1_setKind_19 : decode cX1_setKind 19 = .ok (.iastore, 1) := by decide +kernel
theorem dX1_setKind_20 : decode cX1_setKind 20 = .ok (.return_, 1) := by decide +kernel
theorem dX1_timesOf_0 : decode cX1_timesOf 0 = .ok (.aload_n 0, 1) := by decide +kernel
theorem dX1_timesOf_1 : decode cX1_timesOf 1 = .ok (.getfield 24, 3) := by decide +kernel
theorem dX1_timesOf_4 : decode cX1_timesOf 4 = .ok (.iload_n 1, 1) := by decide +kernel
theorem dX1_timesOf_5 : decode cX1_timesOf 5 = .ok (.bipush 28, 2) := by decide +kernel
theorem dX1_timesOf_7 : decode cX1_timesOf 7 = .ok (.imul, 1) := by decide +kernel
theorem dX1_timesOf_8 : decode cX1_timesOf 8 = .ok (.iload_n 2, 1) := by decide +kernel
theorem dX1_timesOf_9 : decode cX1_timesOf 9 = .ok (.iadd, 1) := by decide +kernel
theorem dX1_timesOf_10 : decode cX1_timesOf 10 = .ok (.iaload, 1) := by decide +kernel
theorem dX1_timesOf_11 : decode cX1_timesOf 11 = .ok (.ireturn, 1) := by decide +kernel
theorem dX1_setTimes_0 : decode cX1_setTimes 0 = .ok (.aload_n 0, 1) := by decide +kernel
theorem dX1_setTimes_1 : decode cX1_setTimes 1 = .ok (.getfield 24, 3) := by decide +kernel
theorem dX1_setTimes_4 : decode cX1_setTimes 4 = .ok (.iload_n 1, 1) := by decide +kernel
theorem dX1_setTimes_5 : decode cX1_setTimes 5 = .ok (.bipush 28, 2) := by decide +kernel
theorem dX1_setTimes_7 : decode cX1_setTimes 7 = .ok (.imul, 1) := by decide +kernel
theorem dX1_setTimes_8 : decode cX1_setTimes 8 = .ok (.iload_n 2, 1) := by decide +kernel
theorem dX1_setTimes_9 : decode cX1_setTimes 9 = .ok (.iadd, 1) := by decide +kernel
theorem dX1_setTimes_10 : decode cX1_setTimes 10 = .ok (.iload_n 3, 1) := by decide +kernel
theorem dX1_setTimes_11 : decode cX1_setTimes 11 = .ok (.iastore, 1) := by decide +kernel
theorem dX1_setTimes_12 : decode cX1_setTimes 12 = .ok (.return_, 1) := by decide +kernel
theorem dX1_livesOf_0 : decode cX1_livesOf 0 = .ok (.aload_n 0, 1) := by decide +kernel
theorem dX1_livesOf_1 : decode cX1_livesOf 1 = .ok (.getfield 9, 3) := by decide +kernel
theorem dX1_livesOf_4 : decode cX1_livesOf 4 = .ok (.iload_n 1, 1) := by decide +kernel
theorem dX1_livesOf_5 : decode cX1_livesOf 5 = .ok (.iaload, 1) := by decide +kernel
theorem dX1_livesOf_6 : decode cX1_livesOf 6 = .ok (.aload_n 0, 1) := by decide +kernel
theorem dX1_livesOf_7 : decode cX1_livesOf 7 = .ok (.getfield 15, 3) := by decide +kernel
theorem dX1_livesOf_10 : decode cX1_livesOf 10 = .ok (.iload_n 1, 1) := by decide +kernel
theorem dX1_livesOf_11 : decode cX1_livesOf 11 = .ok (.iaload, 1) := by decide +kernel
theorem dX1_livesOf_12 : decode cX1_livesOf 12 = .ok (.aload_n 0, 1) := by decide +kernel
theorem dX1_livesOf_13 : decode cX1_livesOf 13 = .ok (.iload_n 1, 1) := by decide +kernel
theorem dX1_livesOf_14 : decode cX1_livesOf 14 = .ok (.iload_n 2, 1) := by decide +kernel
theorem dX1_livesOf_15 : decode cX1_livesOf 15 = .ok (.invokevirtual 43, 3) := by decide +kernel
theorem dX1_livesOf_18 : decode cX1_livesOf 18 = .ok (.iload_n 2, 1) := by decide +kernel
theorem dX1_livesOf_19 : decode cX1_livesOf 19 = .ok (.bipush 7, 2) := by decide +kernel
theorem dX1_livesOf_21 : decode cX1_livesOf 21 = .ok (.irem, 1) := by decide +kernel
theorem dX1_livesOf_22 : decode cX1_livesOf 22 = .ok (.invokestatic 47, 3) := by decide +kernel
theorem dX1_livesOf_25 : decode cX1_livesOf 25 = .ok (.ireturn, 1) := by decide +kernel
theorem dX1_isUpIfHad_0 : decode cX1_isUpIfHad 0 = .ok (.aload_n 0, 1) := by decide +kernel
theorem dX1_isUpIfHad_1 : decode cX1_isUpIfHad 1 = .ok (.getfield 9, 3) := by decide +kernel
theorem dX1_isUpIfHad_4 : decode cX1_isUpIfHad 4 = .ok (.iload_n 1, 1) := by decide +kernel
theorem dX1_isUpIfHad_5 : decode cX1_isUpIfHad 5 = .ok (.iaload, 1) := by decide +kernel
theorem dX1_isUpIfHad_6 : decode cX1_isUpIfHad 6 = .ok (.aload_n 0, 1) := by decide +kernel
theorem dX1_isUpIfHad_7 : decode cX1_isUpIfHad 7 = .ok (.getfield 15, 3) := by decide +kernel
theorem dX1_isUpIfHad_10 : decode cX1_isUpIfHad 10 = .ok (.iload_n 1, 1) := by decide +kernel
theorem dX1_isUpIfHad_11 : decode cX1_isUpIfHad 11 = .ok (.iaload, 1) := by decide +kernel
theorem dX1_isUpIfHad_12 : decode cX1_isUpIfHad 12 = .ok (.iload_n 3, 1) := by decide +kernel
theorem dX1_isUpIfHad_13 : decode cX1_isUpIfHad 13 = .ok (.iload_n 2, 1) := by decide +kernel
theorem dX1_isUpIfHad_14 : decode cX1_isUpIfHad 14 = .ok (.bipush 7, 2) := by decide +kernel
theorem dX1_isUpIfHad_16 : decode cX1_isUpIfHad 16 = .ok (.irem, 1) := by decide +kernel
theorem dX1_isUpIfHad_17 : decode cX1_isUpIfHad 17 = .ok (.invokestatic 47, 3) := by decide +kernel
theorem dX1_isUpIfHad_20 : decode cX1_isUpIfHad 20 = .ok (.ifCond .le 7, 3) := by decide +kernel
theorem dX1_isUpIfHad_23 : decode cX1_isUpIfHad 23 = .ok (.iconst 1, 1) := by decide +kernel
theorem dX1_isUpIfHad_24 : decode cX1_isUpIfHad 24 = .ok (.goto 4, 3) := by decide +kernel
theorem dX1_isUpIfHad_27 : decode cX1_isUpIfHad 27 = .ok (.iconst 0, 1) := by decide +kernel
theorem dX1_isUpIfHad_28 : decode cX1_isUpIfHad 28 = .ok (.ireturn, 1) := by decide +kernel
theorem dX1_isUp_0 : decode cX1_isUp 0 = .ok (.aload_n 0, 1) := by decide +kernel
theorem dX1_isUp_1 : decode cX1_isUp 1 = .ok (.iload_n 1, 1) := by decide +kernel
theorem dX1_isUp_2 : decode cX1_isUp 2 = .ok (.iload_n 2, 1) := by decide +kernel
theorem dX1_isUp_3 : decode cX1_isUp 3 = .ok (.invokevirtual 53, 3) := by decide +kernel
theorem dX1_isUp_6 : decode cX1_isUp 6 = .ok (.ifCond .le 7, 3) := by decide +kernel
theorem dX1_isUp_9 : decode cX1_isUp 9 = .ok (.iconst 1, 1) := by decide +kernel
theorem dX1_isUp_10 : decode cX1_isUp 10 = .ok (.goto 4, 3) := by decide +kernel
theorem dX1_isUp_13 : decode cX1_isUp 13 = .ok (.iconst 0, 1) := by decide +kernel
theorem dX1_isUp_14 : decode cX1_isUp 14 = .ok (.ireturn, 1) := by decide +kernel
theorem dX1_howManyUp_0 : decode cX1_howManyUp 0 = .ok (.iconst 0, 1) := by decide +kernel
theorem dX1_howManyUp_1 : decode cX1_howManyUp 1 = .ok (.istore_n 2, 1) := by decide +kernel
theorem dX1_howManyUp_2 : decode cX1_howManyUp 2 = .ok (.iconst 0, 1) := by decide +kernel
theorem dX1_howManyUp_3 : decode cX1_howManyUp 3 = .ok (.istore_n 3, 1) := by decide +kernel
theorem dX1_howManyUp_4 : decode cX1_howManyUp 4 = .ok (.iload_n 3, 1) := by decide +kernel
theorem dX1_howManyUp_5 : decode cX1_howManyUp 5 = .ok (.aload_n 0, 1) := by decide +kernel
theorem dX1_howManyUp_6 : decode cX1_howManyUp 6 = .ok (.getfield 27, 3) := by decide +kernel
theorem dX1_howManyUp_9 : decode cX1_howManyUp 9 = .ok (.if_icmp .ge 21, 3) := by decide +kernel
theorem dX1_howManyUp_12 : decode cX1_howManyUp 12 = .ok (.aload_n 0, 1) := by decide +kernel
theorem dX1_howManyUp_13 : decode cX1_howManyUp 13 = .ok (.iload_n 3, 1) := by decide +kernel
theorem dX1_howManyUp_14 : decode cX1_howManyUp 14 = .ok (.iload_n 1, 1) := by decide +kernel
theorem dX1_howManyUp_15 : decode cX1_howManyUp 15 = .ok (.invokevirtual 56, 3) := by decide +kernel
theorem dX1_howManyUp_18 : decode cX1_howManyUp 18 = .ok (.ifCond .eq 6, 3) := by decide +kernel
theorem dX1_howManyUp_21 : decode cX1_howManyUp 21 = .ok (.iinc 2 1, 3) := by decide +kernel
theorem dX1_howManyUp_24 : decode cX1_howManyUp 24 = .ok (.iinc 3 1, 3) := by decide +kernel
theorem dX1_howManyUp_27 : decode cX1_howManyUp 27 = .ok (.goto (-23), 3) := by decide +kernel
theorem dX1_howManyUp_30 : decode cX1_howManyUp 30 = .ok (.iload_n 2, 1) := by decide +kernel
theorem dX1_howManyUp_31 : decode cX1_howManyUp 31 = .ok (.ireturn, 1) := by decide +kernel
theorem dX1_upDays_0 : decode cX1_upDays 0 = .ok (.iconst 0, 1) := by decide +kernel
theorem dX1_upDays_1 : decode cX1_upDays 1 = .ok (.istore_n 2, 1) := by decide +kernel
theorem dX1_upDays_2 : decode cX1_upDays 2 = .ok (.iconst 0, 1) := by decide +kernel
theorem dX1_upDays_3 : decode cX1_upDays 3 = .ok (.istore_n 3, 1) := by decide +kernel
theorem dX1_upDays_4 : decode cX1_upDays 4 = .ok (.iload_n 3, 1) := by decide +kernel
theorem dX1_upDays_5 : decode cX1_upDays 5 = .ok (.bipush 28, 2) := by decide +kernel
theorem dX1_upDays_7 : decode cX1_upDays 7 = .ok (.if_icmp .ge 24, 3) := by decide +kernel
theorem dX1_upDays_10 : decode cX1_upDays 10 = .ok (.aload_n 0, 1) := by decide +kernel
theorem dX1_upDays_11 : decode cX1_upDays 11 = .ok (.iload_n 1, 1) := by decide +kernel
theorem dX1_upDays_12 : decode cX1_upDays 12 = .ok (.iload_n 3, 1) := by decide +kernel
theorem dX1_upDays_13 : decode cX1_upDays 13 = .ok (.invokevirtual 53, 3) := by decide +kernel
theorem dX1_upDays_16 : decode cX1_upDays 16 = .ok (.ifCond .le 9, 3) := by decide +kernel
theorem dX1_upDays_19 : decode cX1_upDays 19 = .ok (.iload_n 2, 1) := by decide +kernel
theorem dX1_upDays_20 : decode cX1_upDays 20 = .ok (.iconst 1, 1) := by decide +kernel
theorem dX1_upDays_21 : decode cX1_upDays 21 = .ok (.iload_n 3, 1) := by decide +kernel
theorem dX1_upDays_22 : decode cX1_upDays 22 = .ok (.ishl, 1) := by decide +kernel
theorem dX1_upDays_23 : decode cX1_upDays 23 = .ok (.ior, 1) := by decide +kernel
theorem dX1_upDays_24 : decode cX1_upDays 24 = .ok (.istore_n 2, 1) := by decide +kernel
theorem dX1_upDays_25 : decode cX1_upDays 25 = .ok (.iinc 3 1, 3) := by decide +kernel
theorem dX1_upDays_28 : decode cX1_upDays 28 = .ok (.goto (-24), 3) := by decide +kernel
theorem dX1_upDays_31 : decode cX1_upDays 31 = .ok (.iload_n 2, 1) := by decide +kernel
theorem dX1_upDays_32 : decode cX1_upDays 32 = .ok (.ireturn, 1) := by decide +kernel
theorem dX1_howManyDays_0 : decode cX1_howManyDays 0 = .ok (.iconst 0, 1) := by decide +kernel
theorem dX1_howManyDays_1 : decode cX1_howManyDays 1 = .ok (.istore_n 2, 1) := by decide +kernel
theorem dX1_howManyDays_2 : decode cX1_howManyDays 2 = .ok (.iconst 0, 1) := by decide +kernel
theorem dX1_howManyDays_3 : decode cX1_howManyDays 3 = .ok (.istore_n 3, 1) := by decide +kernel
theorem dX1_howManyDays_4 : decode cX1_howManyDays 4 = .ok (.iload_n 3, 1) := by decide +kernel
theorem dX1_howManyDays_5 : decode cX1_howManyDays 5 = .ok (.bipush 28, 2) := by decide +kernel
theorem dX1_howManyDays_7 : decode cX1_howManyDays 7 = .ok (.if_icmp .ge 21, 3) := by decide +kernel
theorem dX1_howManyDays_10 : decode cX1_howManyDays 10 = .ok (.aload_n 0, 1) := by decide +kernel
theorem dX1_howManyDays_11 : decode cX1_howManyDays 11 = .ok (.iload_n 1, 1) := by decide +kernel
theorem dX1_howManyDays_12 : decode cX1_howManyDays 12 = .ok (.iload_n 3, 1) := by decide +kernel
theorem dX1_howManyDays_13 : decode cX1_howManyDays 13 = .ok (.invokevirtual 43, 3) := by decide +kernel
theorem dX1_howManyDays_16 : decode cX1_howManyDays 16 = .ok (.ifCond .le 6, 3) := by decide +kernel
theorem dX1_howManyDays_19 : decode cX1_howManyDays 19 = .ok (.iinc 2 1, 3) := by decide +kernel
theorem dX1_howManyDays_22 : decode cX1_howManyDays 22 = .ok (.iinc 3 1, 3) := by decide +kernel
theorem dX1_howManyDays_25 : decode cX1_howManyDays 25 = .ok (.goto (-21), 3) := by decide +kernel
theorem dX1_howManyDays_28 : decode cX1_howManyDays 28 = .ok (.iload_n 2, 1) := by decide +kernel
theorem dX1_howManyDays_29 : decode cX1_howManyDays 29 = .ok (.ireturn, 1) := by decide +kernel
theorem dX1_copyFrom_0 : decode cX1_copyFrom 0 = .ok (.aload_n 0, 1) := by decide +kernel
theorem dX1_copyFrom_1 : decode cX1_copyFrom 1 = .ok (.aload_n 1, 1) := by decide +kernel
theorem dX1_copyFrom_2 : decode cX1_copyFrom 2 = .ok (.getfield 27, 3) := by decide +kernel
theorem dX1_copyFrom_5 : decode cX1_copyFrom 5 = .ok (.putfield 27, 3) := by decide +kernel
theorem dX1_copyFrom_8 : decode cX1_copyFrom 8 = .ok (.aload_n 1, 1) := by decide +kernel
theorem dX1_copyFrom_9 : decode cX1_copyFrom 9 = .ok (.getfield 9, 3) := by decide +kernel
theorem dX1_copyFrom_12 : decode cX1_copyFrom 12 = .ok (.iconst 0, 1) := by decide +kernel
theorem dX1_copyFrom_13 : decode cX1_copyFrom 13 = .ok (.aload_n 0, 1) := by decide +kernel
theorem dX1_copyFrom_14 : decode cX1_copyFrom 14 = .ok (.getfield 9, 3) := by decide +kernel
theorem dX1_copyFrom_17 : decode cX1_copyFrom 17 = .ok (.iconst 0, 1) := by decide +kernel
theorem dX1_copyFrom_18 : decode cX1_copyFrom 18 = .ok (.bipush 6, 2) := by decide +kernel
theorem dX1_copyFrom_20 : decode cX1_copyFrom 20 = .ok (.invokestatic 60, 3) := by decide +kernel
theorem dX1_copyFrom_23 : decode cX1_copyFrom 23 = .ok (.aload_n 1, 1) := by decide +kernel
theorem dX1_copyFrom_24 : decode cX1_copyFrom 24 = .ok (.getfield 15, 3) := by decide +kernel
theorem dX1_copyFrom_27 : decode cX1_copyFrom 27 = .ok (.iconst 0, 1) := by decide +kernel
theorem dX1_copyFrom_28 : decode cX1_copyFrom 28 = .ok (.aload_n 0, 1) := by decide +kernel
theorem dX1_copyFrom_29 : decode cX1_copyFrom 29 = .ok (.getfield 15, 3) := by decide +kernel
theorem dX1_copyFrom_32 : decode cX1_copyFrom 32 = .ok (.iconst 0, 1) := by decide +kernel
theorem dX1_copyFrom_33 : decode cX1_copyFrom 33 = .ok (.bipush 6, 2) := by decide +kernel
theorem dX1_copyFrom_35 : decode cX1_copyFrom 35 = .ok (.invokestatic 60, 3) := by decide +kernel
theorem dX1_copyFrom_38 : decode cX1_copyFrom 38 = .ok (.aload_n 1, 1) := by decide +kernel
theorem dX1_copyFrom_39 : decode cX1_copyFrom 39 = .ok (.getfield 18, 3) := by decide +kernel
theorem dX1_copyFrom_42 : decode cX1_copyFrom 42 = .ok (.iconst 0, 1) := by decide +kernel
theorem dX1_copyFrom_43 : decode cX1_copyFrom 43 = .ok (.aload_n 0, 1) := by decide +kernel
theorem dX1_copyFrom_44 : decode cX1_copyFrom 44 = .ok (.getfield 18, 3) := by decide +kernel
theorem dX1_copyFrom_47 : decode cX1_copyFrom 47 = .ok (.iconst 0, 1) := by decide +kernel
theorem dX1_copyFrom_48 : decode cX1_copyFrom 48 = .ok (.bipush 6, 2) := by decide +kernel
theorem dX1_copyFrom_50 : decode cX1_copyFrom 50 = .ok (.invokestatic 60, 3) := by decide +kernel
theorem dX1_copyFrom_53 : decode cX1_copyFrom 53 = .ok (.aload_n 1, 1) := by decide +kernel
theorem dX1_copyFrom_54 : decode cX1_copyFrom 54 = .ok (.getfield 21, 3) := by decide +kernel
theorem dX1_copyFrom_57 : decode cX1_copyFrom 57 = .ok (.iconst 0, 1) := by decide +kernel
theorem dX1_copyFrom_58 : decode cX1_copyFrom 58 = .ok (.aload_n 0, 1) := by decide +kernel
theorem dX1_copyFrom_59 : decode cX1_copyFrom 59 = .ok (.getfield 21, 3) := by decide +kernel
theorem dX1_copyFrom_62 : decode cX1_copyFrom 62 = .ok (.iconst 0, 1) := by decide +kernel
theorem dX1_copyFrom_63 : decode cX1_copyFrom 63 = .ok (.bipush 6, 2) := by decide +kernel
theorem dX1_copyFrom_65 : decode cX1_copyFrom 65 = .ok (.invokestatic 60, 3) := by decide +kernel
theorem dX1_copyFrom_68 : decode cX1_copyFrom 68 = .ok (.aload_n 1, 1) := by decide +kernel
theorem dX1_copyFrom_69 : decode cX1_copyFrom 69 = .ok (.getfield 24, 3) := by decide +kernel
theorem dX1_copyFrom_72 : decode cX1_copyFrom 72 = .ok (.iconst 0, 1) := by decide +kernel
theorem dX1_copyFrom_73 : decode cX1_copyFrom 73 = .ok (.aload_n 0, 1) := by decide +kernel
theorem dX1_copyFrom_74 : decode cX1_copyFrom 74 = .ok (.getfield 24, 3) := by decide +kernel
theorem dX1_copyFrom_77 : decode cX1_copyFrom 77 = .ok (.iconst 0, 1) := by decide +kernel
theorem dX1_copyFrom_78 : decode cX1_copyFrom 78 = .ok (.sipush 168, 3) := by decide +kernel
theorem dX1_copyFrom_81 : decode cX1_copyFrom 81 = .ok (.invokestatic 60, 3) := by decide +kernel
theorem dX1_copyFrom_84 : decode cX1_copyFrom 84 = .ok (.return_, 1) := by decide +kernel
theorem dX2_init_0 : decode cX2_init 0 = .ok (.aload_n 0, 1) := by decide +kernel
theorem dX2_init_1 : decode cX2_init 1 = .ok (.invokespecial 3, 3) := by decide +kernel
theorem dX2_init_4 : decode cX2_init 4 = .ok (.aload_n 0, 1) := by decide +kernel
theorem dX2_init_5 : decode cX2_init 5 = .ok (.bipush 8, 2) := by decide +kernel
theorem dX2_init_7 : decode cX2_init 7 = .ok (.newarray .int, 2) := by decide +kernel
theorem dX2_init_9 : decode cX2_init 9 = .ok (.putfield 9, 3) := by decide +kernel
theorem dX2_init_12 : decode cX2_init 12 = .ok (.aload_n 0, 1) := by decide +kernel
theorem dX2_init_13 : decode cX2_init 13 = .ok (.bipush 8, 2) := by decide +kernel
theorem dX2_init_15 : decode cX2_init 15 = .ok (.newarray .int, 2) := by decide +kernel
theorem dX2_init_17 : decode cX2_init 17 = .ok (.putfield 15, 3) := by decide +kernel
theorem dX2_init_20 : decode cX2_init 20 = .ok (.aload_n 0, 1) := by decide +kernel
theorem dX2_init_21 : decode cX2_init 21 = .ok (.bipush 8, 2) := by decide +kernel
theorem dX2_init_23 : decode cX2_init 23 = .ok (.newarray .int, 2) := by decide +kernel
theorem dX2_init_25 : decode cX2_init 25 = .ok (.putfield 18, 3) := by decide +kernel
theorem dX2_init_28 : decode cX2_init 28 = .ok (.aload_n 0, 1) := by decide +kernel
theorem dX2_init_29 : decode cX2_init 29 = .ok (.iconst 0, 1) := by decide +kernel
theorem dX2_init_30 : decode cX2_init 30 = .ok (.putfield 21, 3) := by decide +kernel
theorem dX2_init_33 : decode cX2_init 33 = .ok (.return_, 1) := by decide +kernel
theorem dX2_join_0 : decode cX2_join 0 = .ok (.aload_n 0, 1) := by decide +kernel
theorem dX2_join_1 : decode cX2_join 1 = .ok (.getfield 21, 3) := by decide +kernel
theorem dX2_join_4 : decode cX2_join 4 = .ok (.istore 4, 2) := by decide +kernel
theorem dX2_join_6 : decode cX2_join 6 = .ok (.aload_n 0, 1) := by decide +kernel
theorem dX2_join_7 : decode cX2_join 7 = .ok (.dup, 1) := by decide +kernel
theorem dX2_join_8 : decode cX2_join 8 = .ok (.getfield 21, 3) := by decide +kernel
theorem dX2_join_11 : decode cX2_join 11 = .ok (.iconst 1, 1) := by decide +kernel
theorem dX2_join_12 : decode cX2_join 12 = .ok (.iadd, 1) := by decide +kernel
theorem dX2_join_13 : decode cX2_join 13 = .ok (.putfield 21, 3) := by decide +kernel
theorem dX2_join_16 : decode cX2_join 16 = .ok (.aload_n 0, 1) := by decide +kernel
theorem dX2_join_17 : decode cX2_join 17 = .ok (.getfield 9, 3) := by decide +kernel
theorem dX2_join_20 : decode cX2_join 20 = .ok (.iload 4, 2) := by decide +kernel
theorem dX2_join_22 : decode cX2_join 22 = .ok (.iload_n 1, 1) := by decide +kernel
theorem dX2_join_23 : decode cX2_join 23 = .ok (.iastore, 1) := by decide +kernel
theorem dX2_join_24 : decode cX2_join 24 = .ok (.aload_n 0, 1) := by decide +kernel
theorem dX2_join_25 : decode cX2_join 25 = .ok (.getfield 15, 3) := by decide +kernel
theorem dX2_join_28 : decode cX2_join 28 = .ok (.iload 4, 2) := by decide +kernel
theorem dX2_join_30 : decode cX2_join 30 = .ok (.iload_n 2, 1) := by decide +kernel
theorem dX2_join_31 : decode cX2_join 31 = .ok (.iastore, 1) := by decide +kernel
theorem dX2_join_32 : decode cX2_join 32 = .ok (.aload_n 0, 1) := by decide +kernel
theorem dX2_join_33 : decode cX2_join 33 = .ok (.getfield 18, 3) := by decide +kernel
theorem dX2_join_36 : decode cX2_join 36 = .ok (.iload 4, 2) := by decide +kernel
theorem dX2_join_38 : decode cX2_join 38 = .ok (.iload_n 3, 1) := by decide +kernel
theorem dX2_join_39 : decode cX2_join 39 = .ok (.iastore, 1) := by decide +kernel
theorem dX2_join_40 : decode cX2_join 40 = .ok (.iload 4, 2) := by decide +kernel
theorem dX2_join_42 : decode cX2_join 42 = .ok (.ireturn, 1) := by decide +kernel
theorem dX2_isOf_0 : decode cX2_isOf 0 = .ok (.aload_n 0, 1) := by decide +kernel
theorem dX2_isOf_1 : decode cX2_isOf 1 = .ok (.getfield 9, 3) := by decide +kernel
theorem dX2_isOf_4 : decode cX2_isOf 4 = .ok (.iload_n 1, 1) := by decide +kernel
theorem dX2_isOf_5 : decode cX2_isOf 5 = .ok (.iaload, 1) := by decide +kernel
theorem dX2_isOf_6 : decode cX2_isOf 6 = .ok (.iload_n 2, 1) := by decide +kernel
theorem dX2_isOf_7 : decode cX2_isOf 7 = .ok (.if_icmp .eq 13, 3) := by decide +kernel
theorem dX2_isOf_10 : decode cX2_isOf 10 = .ok (.aload_n 0, 1) := by decide +kernel
theorem dX2_isOf_11 : decode cX2_isOf 11 = .ok (.getfield 15, 3) := by decide +kernel
theorem dX2_isOf_14 : decode cX2_isOf 14 = .ok (.iload_n 1, 1) := by decide +kernel
theorem dX2_isOf_15 : decode cX2_isOf 15 = .ok (.iaload, 1) := by decide +kernel
theorem dX2_isOf_16 : decode cX2_isOf 16 = .ok (.iload_n 2, 1) := by decide +kernel
theorem dX2_isOf_17 : decode cX2_isOf 17 = .ok (.if_icmp .ne 7, 3) := by decide +kernel
theorem dX2_isOf_20 : decode cX2_isOf 20 = .ok (.iconst 1, 1) := by decide +kernel
theorem dX2_isOf_21 : decode cX2_isOf 21 = .ok (.goto 4, 3) := by decide +kernel
theorem dX2_isOf_24 : decode cX2_isOf 24 = .ok (.iconst 0, 1) := by decide +kernel
theorem dX2_isOf_25 : decode cX2_isOf 25 = .ok (.ireturn, 1) := by decide +kernel
theorem dX2_isKept_0 : decode cX2_isKept 0 = .ok (.aload_n 0, 1) := by decide +kernel
theorem dX2_isKept_1 : decode cX2_isKept 1 = .ok (.getfield 18, 3) := by decide +kernel
theorem dX2_isKept_4 : decode cX2_isKept 4 = .ok (.iload_n 1, 1) := by decide +kernel
theorem dX2_isKept_5 : decode cX2_isKept 5 = .ok (.iaload, 1) := by decide +kernel
theorem dX2_isKept_6 : decode cX2_isKept 6 = .ok (.istore_n 3, 1) := by decide +kernel
theorem dX2_isKept_7 : decode cX2_isKept 7 = .ok (.aload_n 2, 1) := by decide +kernel
theorem dX2_isKept_8 : decode cX2_isKept 8 = .ok (.aload_n 0, 1) := by decide +kernel
theorem dX2_isKept_9 : decode cX2_isKept 9 = .ok (.getfield 9, 3) := by decide +kernel
theorem dX2_isKept_12 : decode cX2_isKept 12 = .ok (.iload_n 1, 1) := by decide +kernel
theorem dX2_isKept_13 : decode cX2_isKept 13 = .ok (.iaload, 1) := by decide +kernel
theorem dX2_isKept_14 : decode cX2_isKept 14 = .ok (.iload_n 3, 1) := by decide +kernel
theorem dX2_isKept_15 : decode cX2_isKept 15 = .ok (.invokevirtual 25, 3) := by decide +kernel
theorem dX2_isKept_18 : decode cX2_isKept 18 = .ok (.ifCond .eq 21, 3) := by decide +kernel
theorem dX2_isKept_21 : decode cX2_isKept 21 = .ok (.aload_n 2, 1) := by decide +kernel
theorem dX2_isKept_22 : decode cX2_isKept 22 = .ok (.aload_n 0, 1) := by decide +kernel
theorem dX2_isKept_23 : decode cX2_isKept 23 = .ok (.getfield 15, 3) := by decide +kernel
theorem dX2_isKept_26 : decode cX2_isKept 26 = .ok (.iload_n 1, 1) := by decide +kernel
theorem dX2_isKept_27 : decode cX2_isKept 27 = .ok (.iaload, 1) := by decide +kernel
theorem dX2_isKept_28 : decode cX2_isKept 28 = .ok (.iload_n 3, 1) := by decide +kernel
theorem dX2_isKept_29 : decode cX2_isKept 29 = .ok (.invokevirtual 25, 3) := by decide +kernel
theorem dX2_isKept_32 : decode cX2_isKept 32 = .ok (.ifCond .eq 7, 3) := by decide +kernel
theorem dX2_isKept_35 : decode cX2_isKept 35 = .ok (.iconst 1, 1) := by decide +kernel
theorem dX2_isKept_36 : decode cX2_isKept 36 = .ok (.goto 4, 3) := by decide +kernel
theorem dX2_isKept_39 : decode cX2_isKept 39 = .ok (.iconst 0, 1) := by decide +kernel
theorem dX2_isKept_40 : decode cX2_isKept 40 = .ok (.ireturn, 1) := by decide +kernel
theorem dX2_howManyUnkept_0 : decode cX2_howManyUnkept 0 = .ok (.iconst 0, 1) := by decide +kernel
theorem dX2_howManyUnkept_1 : decode cX2_howManyUnkept 1 = .ok (.istore_n 2, 1) := by decide +kernel
theorem dX2_howManyUnkept_2 : decode cX2_howManyUnkept 2 = .ok (.iconst 0, 1) := by decide +kernel
theorem dX2_howManyUnkept_3 : decode cX2_howManyUnkept 3 = .ok (.istore_n 3, 1) := by decide +kernel
theorem dX2_howManyUnkept_4 : decode cX2_howManyUnkept 4 = .ok (.iload_n 3, 1) := by decide +kernel
theorem dX2_howManyUnkept_5 : decode cX2_howManyUnkept 5 = .ok (.aload_n 0, 1) := by decide +kernel
theorem dX2_howManyUnkept_6 : decode cX2_howManyUnkept 6 = .ok (.getfield 21, 3) := by decide +kernel
theorem dX2_howManyUnkept_9 : decode cX2_howManyUnkept 9 = .ok (.if_icmp .ge 21, 3) := by decide +kernel
theorem dX2_howManyUnkept_12 : decode cX2_howManyUnkept 12 = .ok (.aload_n 0, 1) := by decide +kernel
theorem dX2_howManyUnkept_13 : decode cX2_howManyUnkept 13 = .ok (.iload_n 3, 1) := by decide +kernel
theorem dX2_howManyUnkept_14 : decode cX2_howManyUnkept 14 = .ok (.aload_n 1, 1) := by decide +kernel
theorem dX2_howManyUnkept_15 : decode cX2_howManyUnkept 15 = .ok (.invokevirtual 31, 3) := by decide +kernel
theorem dX2_howManyUnkept_18 : decode cX2_howManyUnkept 18 = .ok (.ifCond .ne 6, 3) := by decide +kernel
theorem dX2_howManyUnkept_21 : decode cX2_howManyUnkept 21 = .ok (.iinc 2 1, 3) := by decide +kernel
theorem dX2_howManyUnkept_24 : decode cX2_howManyUnkept 24 = .ok (.iinc 3 1, 3) := by decide +kernel
theorem dX2_howManyUnkept_27 : decode cX2_howManyUnkept 27 = .ok (.goto (-23), 3) := by decide +kernel
theorem dX2_howManyUnkept_30 : decode cX2_howManyUnkept 30 = .ok (.iload_n 2, 1) := by decide +kernel
theorem dX2_howManyUnkept_31 : decode cX2_howManyUnkept 31 = .ok (.ireturn, 1) := by decide +kernel
theorem dX2_copyFrom_0 : decode cX2_copyFrom 0 = .ok (.aload_n 0, 1) := by decide +kernel
theorem dX2_copyFrom_1 : decode cX2_copyFrom 1 = .ok (.aload_n 1, 1) := by decide +kernel
theorem dX2_copyFrom_2 : decode cX2_copyFrom 2 = .ok (.getfield 21, 3) := by decide +kernel
theorem dX2_copyFrom_5 : decode cX2_copyFrom 5 = .ok (.putfield 21, 3) := by decide +kernel
theorem dX2_copyFrom_8 : decode cX2_copyFrom 8 = .ok (.aload_n 1, 1) := by decide +kernel
theorem dX2_copyFrom_9 : decode cX2_copyFrom 9 = .ok (.getfield 9, 3) := by decide +kernel
theorem dX2_copyFrom_12 : decode cX2_copyFrom 12 = .ok (.iconst 0, 1) := by decide +kernel
theorem dX2_copyFrom_13 : decode cX2_copyFrom 13 = .ok (.aload_n 0, 1) := by decide +kernel
theorem dX2_copyFrom_14 : decode cX2_copyFrom 14 = .ok (.getfield 9, 3) := by decide +kernel
theorem dX2_copyFrom_17 : decode cX2_copyFrom 17 = .ok (.iconst 0, 1) := by decide +kernel
theorem dX2_copyFrom_18 : decode cX2_copyFrom 18 = .ok (.bipush 8, 2) := by decide +kernel
theorem dX2_copyFrom_20 : decode cX2_copyFrom 20 = .ok (.invokestatic 35, 3) := by decide +kernel
theorem dX2_copyFrom_23 : decode cX2_copyFrom 23 = .ok (.aload_n 1, 1) := by decide +kernel
theorem dX2_copyFrom_24 : decode cX2_copyFrom 24 = .ok (.getfield 15, 3) := by decide +kernel
theorem dX2_copyFrom_27 : decode cX2_copyFrom 27 = .ok (.iconst 0, 1) := by decide +kernel
theorem dX2_copyFrom_28 : decode cX2_copyFrom 28 = .ok (.aload_n 0, 1) := by decide +kernel
theorem dX2_copyFrom_29 : decode cX2_copyFrom 29 = .ok (.getfield 15, 3) := by decide +kernel
theorem dX2_copyFrom_32 : decode cX2_copyFrom 32 = .ok (.iconst 0, 1) := by decide +kernel
theorem dX2_copyFrom_33 : decode cX2_copyFrom 33 = .ok (.bipush 8, 2) := by decide +kernel
theorem dX2_copyFrom_35 : decode cX2_copyFrom 35 = .ok (.invokestatic 35, 3) := by decide +kernel
theorem dX2_copyFrom_38 : decode cX2_copyFrom 38 = .ok (.aload_n 1, 1) := by decide +kernel
theorem dX2_copyFrom_39 : decode cX2_copyFrom 39 = .ok (.getfield 18, 3) := by decide +kernel
theorem dX2_copyFrom_42 : decode cX2_copyFrom 42 = .ok (.iconst 0, 1) := by decide +kernel
theorem dX2_copyFrom_43 : decode cX2_copyFrom 43 = .ok (.aload_n 0, 1) := by decide +kernel
theorem dX2_copyFrom_44 : decode cX2_copyFrom 44 = .ok (.getfield 18, 3) := by decide +kernel
theorem dX2_copyFrom_47 : decode cX2_copyFrom 47 = .ok (.iconst 0, 1) := by decide +kernel
theorem dX2_copyFrom_48 : decode cX2_copyFrom 48 = .ok (.bipush 8, 2) := by decide +kernel
theorem dX2_copyFrom_50 : decode cX2_copyFrom 50 = .ok (.invokestatic 35, 3) := by decide +kernel
theorem dX2_copyFrom_53 : decode cX2_copyFrom 53 = .ok (.return_, 1) := by decide +kernel
theorem dX3_init_0 : decode cX3_init 0 = .ok (.aload_n 0, 1) := by decide +kernel
theorem dX3_init_1 : decode cX3_init 1 = .ok (.invokespecial 3, 3) := by decide +kernel
theorem dX3_init_4 : decode cX3_init 4 = .ok (.aload_n 0, 1) := by decide +kernel
theorem dX3_init_5 : decode cX3_init 5 = .ok (.new 9, 3) := by decide +kernel
theorem dX3_init_8 : decode cX3_init 8 = .ok (.dup, 1) := by decide +kernel
theorem dX3_init_9 : decode cX3_init 9 = .ok (.bipush 60, 2) := by decide +kernel
theorem dX3_init_11 : decode cX3_init 11 = .ok (.invokespecial 11, 3) := by decide +kernel
theorem dX3_init_14 : decode cX3_init 14 = .ok (.putfield 14, 3) := by decide +kernel
theorem dX3_init_17 : decode cX3_init 17 = .ok (.aload_n 0, 1) := by decide +kernel
theorem dX3_init_18 : decode cX3_init 18 = .ok (.new 9, 3) := by decide +kernel
theorem dX3_init_21 : decode cX3_init 21 = .ok (.dup, 1) := by decide +kernel
theorem dX3_init_22 : decode cX3_init 22 = .ok (.bipush 60, 2) := by decide +kernel
theorem dX3_init_24 : decode cX3_init 24 = .ok (.invokespecial 11, 3) := by decide +kernel
theorem dX3_init_27 : decode cX3_init 27 = .ok (.putfield 20, 3) := by decide +kernel
theorem dX3_init_30 : decode cX3_init 30 = .ok (.aload_n 0, 1) := by decide +kernel
theorem dX3_init_31 : decode cX3_init 31 = .ok (.iconst 0, 1) := by decide +kernel
theorem dX3_init_32 : decode cX3_init 32 = .ok (.putfield 23, 3) := by decide +kernel
theorem dX3_init_35 : decode cX3_init 35 = .ok (.aload_n 0, 1) := by decide +kernel
theorem dX3_init_36 : decode cX3_init 36 = .ok (.iconst 0, 1) := by decide +kernel
theorem dX3_init_37 : decode cX3_init 37 = .ok (.putfield 27, 3) := by decide +kernel
theorem dX3_init_40 : decode cX3_init 40 = .ok (.aload_n 0, 1) := by decide +kernel
theorem dX3_init_41 : decode cX3_init 41 = .ok (.iconst (-1), 1) := by decide +kernel
theorem dX3_init_42 : decode cX3_init 42 = .ok (.putfield 30, 3) := by decide +kernel
theorem dX3_init_45 : decode cX3_init 45 = .ok (.return_, 1) := by decide +kernel
theorem dX3_faultOf_0 : decode cX3_faultOf 0 = .ok (.aload_n 0, 1) := by decide +kernel
theorem dX3_faultOf_1 : decode cX3_faultOf 1 = .ok (.getfield 20, 3) := by decide +kernel
theorem dX3_faultOf_4 : decode cX3_faultOf 4 = .ok (.aload_n 1, 1) := by decide +kernel
theorem dX3_faultOf_5 : decode cX3_faultOf 5 = .ok (.invokevirtual 33, 3) := by decide +kernel
theorem dX3_faultOf_8 : decode cX3_faultOf 8 = .ok (.aload_n 0, 1) := by decide +kernel
theorem dX3_faultOf_9 : decode cX3_faultOf 9 = .ok (.iload_n 2, 1) := by decide +kernel
theorem dX3_faultOf_10 : decode cX3_faultOf 10 = .ok (.putfield 23, 3) := by decide +kernel
theorem dX3_faultOf_13 : decode cX3_faultOf 13 = .ok (.aload_n 0, 1) := by decide +kernel
theorem dX3_faultOf_14 : decode cX3_faultOf 14 = .ok (.iconst 0, 1) := by decide +kernel
theorem dX3_faultOf_15 : decode cX3_faultOf 15 = .ok (.putfield 27, 3) := by decide +kernel
theorem dX3_faultOf_18 : decode cX3_faultOf 18 = .ok (.aload_n 0, 1) := by decide +kernel
theorem dX3_faultOf_19 : decode cX3_faultOf 19 = .ok (.iconst (-1), 1) := by decide +kernel
theorem dX3_faultOf_20 : decode cX3_faultOf 20 = .ok (.putfield 30, 3) := by decide +kernel
theorem dX3_faultOf_23 : decode cX3_faultOf 23 = .ok (.aload_n 0, 1) := by decide +kernel
theorem dX3_faultOf_24 : decode cX3_faultOf 24 = .ok (.getfield 14, 3) := by decide +kernel
theorem dX3_faultOf_27 : decode cX3_faultOf 27 = .ok (.iconst 0, 1) := by decide +kernel
theorem dX3_faultOf_28 : decode cX3_faultOf 28 = .ok (.putfield 37, 3) := by decide +kernel
theorem dX3_faultOf_31 : decode cX3_faultOf 31 = .ok (.aload_n 0, 1) := by decide +kernel
theorem dX3_faultOf_32 : decode cX3_faultOf 32 = .ok (.iconst 0, 1) := by decide +kernel
theorem dX3_faultOf_33 : decode cX3_faultOf 33 = .ok (.iconst 0, 1) := by decide +kernel
theorem dX3_faultOf_34 : decode cX3_faultOf 34 = .ok (.invokevirtual 40, 3) := by decide +kernel
theorem dX3_faultOf_37 : decode cX3_faultOf 37 = .ok (.aload_n 0, 1) := by decide +kernel
theorem dX3_faultOf_38 : decode cX3_faultOf 38 = .ok (.getfield 27, 3) := by decide +kernel
theorem dX3_faultOf_41 : decode cX3_faultOf 41 = .ok (.aload_n 0, 1) := by decide +kernel
theorem dX3_faultOf_42 : decode cX3_faultOf 42 = .ok (.getfield 20, 3) := by decide +kernel
theorem dX3_faultOf_45 : decode cX3_faultOf 45 = .ok (.getfield 37, 3) := by decide +kernel
theorem dX3_faultOf_48 : decode cX3_faultOf 48 = .ok (.if_icmp .ge 7, 3) := by decide +kernel
theorem dX3_faultOf_51 : decode cX3_faultOf 51 = .ok (.aload_n 0, 1) := by decide +kernel
theorem dX3_faultOf_52 : decode cX3_faultOf 52 = .ok (.invokevirtual 44, 3) := by decide +kernel
theorem dX3_faultOf_55 : decode cX3_faultOf 55 = .ok (.aload_n 0, 1) := by decide +kernel
theorem dX3_faultOf_56 : decode cX3_faultOf 56 = .ok (.getfield 30, 3) := by decide +kernel
theorem dX3_faultOf_59 : decode cX3_faultOf 59 = .ok (.ireturn, 1) := by decide +kernel
theorem dX3_readLevel_0 : decode cX3_readLevel 0 = .ok (.iload_n 1, 1) := by decide +kernel
theorem dX3_readLevel_1 : decode cX3_readLevel 1 = .ok (.iconst 5, 1) := by decide +kernel
theorem dX3_readLevel_2 : decode cX3_readLevel 2 = .ok (.if_icmp .lt 9, 3) := by decide +kernel
theorem dX3_readLevel_5 : decode cX3_readLevel 5 = .ok (.aload_n 0, 1) := by decide +kernel
theorem dX3_readLevel_6 : decode cX3_readLevel 6 = .ok (.iload_n 2, 1) := by decide +kernel
theorem dX3_readLevel_7 : decode cX3_readLevel 7 = .ok (.invokevirtual 47, 3) := by decide +kernel
theorem dX3_readLevel_10 : decode cX3_readLevel 10 = .ok (.return_, 1) := by decide +kernel
theorem dX3_readLevel_11 : decode cX3_readLevel 11 = .ok (.aload_n 0, 1) := by decide +kernel
theorem dX3_readLevel_12 : decode cX3_readLevel 12 = .ok (.iload_n 1, 1) := by decide +kernel
theorem dX3_readLevel_13 : decode cX3_readLevel 13 = .ok (.iconst 1, 1) := by decide +kernel
theorem dX3_readLevel_14 : decode cX3_readLevel 14 = .ok (.iadd, 1) := by decide +kernel
theorem dX3_readLevel_15 : decode cX3_readLevel 15 = .ok (.iload_n 2, 1) := by decide +kernel
theorem dX3_readLevel_16 : decode cX3_readLevel 16 = .ok (.invokevirtual 40, 3) := by decide +kernel
theorem dX3_readLevel_19 : decode cX3_readLevel 19 = .ok (.iload_n 1, 1) := by decide +kernel
theorem dX3_readLevel_20 : decode cX3_readLevel 20 = .ok (.iconst 2, 1) := by decide +kernel
theorem dX3_readLevel_21 : decode cX3_readLevel 21 = .ok (.if_icmp .ne 7, 3) := by decide +kernel
theorem dX3_readLevel_24 : decode cX3_readLevel 24 = .ok (.iconst 1, 1) := by decide +kernel
theorem dX3_readLevel_25 : decode cX3_readLevel 25 = .ok (.goto 5, 3) := by decide +kernel
theorem dX3_readLevel_28 : decode cX3_readLevel 28 = .ok (.bipush 60, 2) := by decide +kernel
theorem dX3_readLevel_30 : decode cX3_readLevel 30 = .ok (.istore_n 3, 1) := by decide +kernel
theorem dX3_readLevel_31 : decode cX3_readLevel 31 = .ok (.iconst 0, 1) := by decide +kernel
theorem dX3_readLevel_32 : decode cX3_readLevel 32 = .ok (.istore 4, 2) := by decide +kernel
theorem dX3_readLevel_34 : decode cX3_readLevel 34 = .ok (.iload 4, 2) := by decide +kernel
theorem dX3_readLevel_36 : decode cX3_readLevel 36 = .ok (.iload_n 3, 1) := by decide +kernel
theorem dX3_readLevel_37 : decode cX3_readLevel 37 = .ok (.if_icmp .ge 57, 3) := by decide +kernel
theorem dX3_readLevel_40 : decode cX3_readLevel 40 = .ok (.iload_n 1, 1) := by decide +kernel
theorem dX3_readLevel_41 : decode cX3_readLevel 41 = .ok (.aload_n 0, 1) := by decide +kernel
theorem dX3_readLevel_42 : decode cX3_readLevel 42 = .ok (.invokevirtual 50, 3) := by decide +kernel
theorem dX3_readLevel_45 : decode cX3_readLevel 45 = .ok (.invokestatic 54, 3) := by decide +kernel
theorem dX3_readLevel_48 : decode cX3_readLevel 48 = .ok (.ifCond .eq 46, 3) := by decide +kernel
theorem dX3_readLevel_51 : decode cX3_readLevel 51 = .ok (.aload_n 0, 1) := by decide +kernel
theorem dX3_readLevel_52 : decode cX3_readLevel 52 = .ok (.invokevirtual 50, 3) := by decide +kernel
theorem dX3_readLevel_55 : decode cX3_readLevel 55 = .ok (.istore 5, 2) := by decide +kernel
theorem dX3_readLevel_57 : decode cX3_readLevel 57 = .ok (.aload_n 0, 1) := by decide +kernel
theorem dX3_readLevel_58 : decode cX3_readLevel 58 = .ok (.dup, 1) := by decide +kernel
theorem dX3_readLevel_59 : decode cX3_readLevel 59 = .ok (.getfield 27, 3) := by decide +kernel
theorem dX3_readLevel_62 : decode cX3_readLevel 62 = .ok (.iconst 1, 1) := by decide +kernel
theorem dX3_readLevel_63 : decode cX3_readLevel 63 = .ok (.iadd, 1) := by decide +kernel
theorem dX3_readLevel_64 : decode cX3_readLevel 64 = .ok (.putfield 27, 3) := by decide +kernel
theorem dX3_readLevel_67 : decode cX3_readLevel 67 = .ok (.aload_n 0, 1) := by decide +kernel
theorem dX3_readLevel_68 : decode cX3_readLevel 68 = .ok (.iload_n 1, 1) := by decide +kernel
theorem dX3_readLevel_69 : decode cX3_readLevel 69 = .ok (.iconst 1, 1) := by decide +kernel
theorem dX3_readLevel_70 : decode cX3_readLevel 70 = .ok (.iadd, 1) := by decide +kernel
theorem dX3_readLevel_71 : decode cX3_readLevel 71 = .ok (.iload_n 2, 1) := by decide +kernel
theorem dX3_readLevel_72 : decode cX3_readLevel 72 = .ok (.invokevirtual 40, 3) := by decide +kernel
theorem dX3_readLevel_75 : decode cX3_readLevel 75 = .ok (.aload_n 0, 1) := by decide +kernel
theorem dX3_readLevel_76 : decode cX3_readLevel 76 = .ok (.getfield 14, 3) := by decide +kernel
theorem dX3_readLevel_79 : decode cX3_readLevel 79 = .ok (.sipush 20000, 3) := by decide +kernel
theorem dX3_readLevel_82 : decode cX3_readLevel 82 = .ok (.iload 5, 2) := by decide +kernel
theorem dX3_readLevel_84 : decode cX3_readLevel 84 = .ok (.iadd, 1) := by decide +kernel
theorem dX3_readLevel_85 : decode cX3_readLevel 85 = .ok (.invokevirtual 60, 3) := by decide +kernel
theorem dX3_readLevel_88 : decode cX3_readLevel 88 = .ok (.iinc 4 1, 3) := by decide +kernel
theorem dX3_readLevel_91 : decode cX3_readLevel 91 = .ok (.goto (-57), 3) := by decide +kernel
theorem dX3_readLevel_94 : decode cX3_readLevel 94 = .ok (.return_, 1) := by decide +kernel
theorem dX3_readQ_0 : decode cX3_readQ 0 = .ok (.aload_n 0, 1) := by decide +kernel
theorem dX3_readQ_1 : decode cX3_readQ 1 = .ok (.invokevirtual 63, 3) := by decide +kernel
theorem dX3_readQ_4 : decode cX3_readQ 4 = .ok (.istore_n 2, 1) := by decide +kernel
theorem dX3_readQ_5 : decode cX3_readQ 5 = .ok (.aload_n 0, 1) := by decide +kernel
theorem dX3_readQ_6 : decode cX3_readQ 6 = .ok (.invokevirtual 50, 3) := by decide +kernel
theorem dX3_readQ_9 : decode cX3_readQ 9 = .ok (.invokestatic 66, 3) := by decide +kernel
theorem dX3_readQ_12 : decode cX3_readQ 12 = .ok (.ifCond .eq 10, 3) := by decide +kernel
theorem dX3_readQ_15 : decode cX3_readQ 15 = .ok (.aload_n 0, 1) := by decide +kernel
theorem dX3_readQ_16 : decode cX3_readQ 16 = .ok (.invokevirtual 70, 3) := by decide +kernel
theorem dX3_readQ_19 : decode cX3_readQ 19 = .ok (.goto 119, 3) := by decide +kernel
theorem dX3_readQ_22 : decode cX3_readQ 22 = .ok (.iload_n 2, 1) := by decide +kernel
theorem dX3_readQ_23 : decode cX3_readQ 23 = .ok (.ifCond .lt 28, 3) := by decide +kernel
theorem dX3_readQ_26 : decode cX3_readQ 26 = .ok (.aload_n 0, 1) := by decide +kernel
theorem dX3_readQ_27 : decode cX3_readQ 27 = .ok (.dup, 1) := by decide +kernel
theorem dX3_readQ_28 : decode cX3_readQ 28 = .ok (.getfield 27, 3) := by decide +kernel
theorem dX3_readQ_31 : decode cX3_readQ 31 = .ok (.iconst 1, 1) := by decide +kernel
theorem dX3_readQ_32 : decode cX3_readQ 32 = .ok (.iadd, 1) := by decide +kernel
theorem dX3_readQ_33 : decode cX3_readQ 33 = .ok (.putfield 27, 3) := by decide +kernel
theorem dX3_readQ_36 : decode cX3_readQ 36 = .ok (.aload_n 0, 1) := by decide +kernel
theorem dX3_readQ_37 : decode cX3_readQ 37 = .ok (.getfield 14, 3) := by decide +kernel
theorem dX3_readQ_40 : decode cX3_readQ 40 = .ok (.sipush 10000, 3) := by decide +kernel
theorem dX3_readQ_43 : decode cX3_readQ 43 = .ok (.iload_n 2, 1) := by decide +kernel
theorem dX3_readQ_44 : decode cX3_readQ 44 = .ok (.iadd, 1) := by decide +kernel
theorem dX3_readQ_45 : decode cX3_readQ 45 = .ok (.invokevirtual 60, 3) := by decide +kernel
theorem dX3_readQ_48 : decode cX3_readQ 48 = .ok (.goto 90, 3) := by decide +kernel
theorem dX3_readQ_51 : decode cX3_readQ 51 = .ok (.aload_n 0, 1) := by decide +kernel
theorem dX3_readQ_52 : decode cX3_readQ 52 = .ok (.invokevirtual 50, 3) := by decide +kernel
theorem dX3_readQ_55 : decode cX3_readQ 55 = .ok (.bipush 33, 2) := by decide +kernel
theorem dX3_readQ_57 : decode cX3_readQ 57 = .ok (.if_icmp .ne 38, 3) := by decide +kernel
theorem dX3_readQ_60 : decode cX3_readQ 60 = .ok (.iload_n 1, 1) := by decide +kernel
theorem dX3_readQ_61 : decode cX3_readQ 61 = .ok (.iconst 5, 1) := by decide +kernel
theorem dX3_readQ_62 : decode cX3_readQ 62 = .ok (.if_icmp .ge 33, 3) := by decide +kernel
theorem dX3_readQ_65 : decode cX3_readQ 65 = .ok (.aload_n 0, 1) := by decide +kernel
theorem dX3_readQ_66 : decode cX3_readQ 66 = .ok (.dup, 1) := by decide +kernel
theorem dX3_readQ_67 : decode cX3_readQ 67 = .ok (.getfield 27, 3) := by decide +kernel
theorem dX3_readQ_70 : decode cX3_readQ 70 = .ok (.iconst 1, 1) := by decide +kernel
theorem dX3_readQ_71 : decode cX3_readQ 71 = .ok (.iadd, 1) := by decide +kernel
theorem dX3_readQ_72 : decode cX3_readQ 72 = .ok (.putfield 27, 3) := by decide +kernel
theorem dX3_readQ_75 : decode cX3_readQ 75 = .ok (.aload_n 0, 1) := by decide +kernel
theorem dX3_readQ_76 : decode cX3_readQ 76 = .ok (.iload_n 1, 1) := by decide +kernel
theorem dX3_readQ_77 : decode cX3_readQ 77 = .ok (.iconst 1, 1) := by decide +kernel
theorem dX3_readQ_78 : decode cX3_readQ 78 = .ok (.iadd, 1) := by decide +kernel
theorem dX3_readQ_79 : decode cX3_readQ 79 = .ok (.invokevirtual 47, 3) := by decide +kernel
theorem dX3_readQ_82 : decode cX3_readQ 82 = .ok (.aload_n 0, 1) := by decide +kernel
theorem dX3_readQ_83 : decode cX3_readQ 83 = .ok (.getfield 14, 3) := by decide +kernel
theorem dX3_readQ_86 : decode cX3_readQ 86 = .ok (.sipush 20033, 3) := by decide +kernel
theorem dX3_readQ_89 : decode cX3_readQ 89 = .ok (.invokevirtual 60, 3) := by decide +kernel
theorem dX3_readQ_92 : decode cX3_readQ 92 = .ok (.goto 46, 3) := by decide +kernel
theorem dX3_readQ_95 : decode cX3_readQ 95 = .ok (.aload_n 0, 1) := by decide +kernel
theorem dX3_readQ_96 : decode cX3_readQ 96 = .ok (.invokevirtual 50, 3) := by decide +kernel
theorem dX3_readQ_99 : decode cX3_readQ 99 = .ok (.bipush 40, 2) := by decide +kernel
theorem dX3_readQ_101 : decode cX3_readQ 101 = .ok (.if_icmp .ne 33, 3) := by decide +kernel
theorem dX3_readQ_104 : decode cX3_readQ 104 = .ok (.iload_n 1, 1) := by decide +kernel
theorem dX3_readQ_105 : decode cX3_readQ 105 = .ok (.iconst 5, 1) := by decide +kernel
theorem dX3_readQ_106 : decode cX3_readQ 106 = .ok (.if_icmp .ge 28, 3) := by decide +kernel
theorem dX3_readQ_109 : decode cX3_readQ 109 = .ok (.aload_n 0, 1) := by decide +kernel
theorem dX3_readQ_110 : decode cX3_readQ 110 = .ok (.dup, 1) := by decide +kernel
theorem dX3_readQ_111 : decode cX3_readQ 111 = .ok (.getfield 27, 3) := by decide +kernel
theorem dX3_readQ_114 : decode cX3_readQ 114 = .ok (.iconst 1, 1) := by decide +kernel
theorem dX3_readQ_115 : decode cX3_readQ 115 = .ok (.iadd, 1) := by decide +kernel
theorem dX3_readQ_116 : decode cX3_readQ 116 = .ok (.putfield 27, 3) := by decide +kernel
theorem dX3_readQ_119 : decode cX3_readQ 119 = .ok (.aload_n 0, 1) := by decide +kernel
theorem dX3_readQ_120 : decode cX3_readQ 120 = .ok (.iconst 0, 1) := by decide +kernel
theorem dX3_readQ_121 : decode cX3_readQ 121 = .ok (.iload_n 1, 1) := by decide +kernel
theorem dX3_readQ_122 : decode cX3_readQ 122 = .ok (.iconst 1, 1) := by decide +kernel
theorem dX3_readQ_123 : decode cX3_readQ 123 = .ok (.iadd, 1) := by decide +kernel
theorem dX3_readQ_124 : decode cX3_readQ 124 = .ok (.invokevirtual 40, 3) := by decide +kernel
theorem dX3_readQ_127 : decode cX3_readQ 127 = .ok (.aload_n 0, 1) := by decide +kernel
theorem dX3_readQ_128 : decode cX3_readQ 128 = .ok (.invokevirtual 73, 3) := by decide +kernel
theorem dX3_readQ_131 : decode cX3_readQ 131 = .ok (.goto 7, 3) := by decide +kernel
theorem dX3_readQ_134 : decode cX3_readQ 134 = .ok (.aload_n 0, 1) := by decide +kernel
theorem dX3_readQ_135 : decode cX3_readQ 135 = .ok (.invokevirtual 44, 3) := by decide +kernel
theorem dX3_readQ_138 : decode cX3_readQ 138 = .ok (.return_, 1) := by decide +kernel
theorem dX3_readNumber_0 : decode cX3_readNumber 0 = .ok (.iconst 0, 1) := by decide +kernel
theorem dX3_readNumber_1 : decode cX3_readNumber 1 = .ok (.istore_n 1, 1) := by decide +kernel
theorem dX3_readNumber_2 : decode cX3_readNumber 2 = .ok (.iconst 0, 1) := by decide +kernel
theorem dX3_readNumber_3 : decode cX3_readNumber 3 = .ok (.istore_n 2, 1) := by decide +kernel
theorem dX3_readNumber_4 : decode cX3_readNumber 4 = .ok (.iload_n 2, 1) := by decide +kernel
theorem dX3_readNumber_5 : decode cX3_readNumber 5 = .ok (.iconst 4, 1) := by decide +kernel
theorem dX3_readNumber_6 : decode cX3_readNumber 6 = .ok (.if_icmp .ge 42, 3) := by decide +kernel
theorem dX3_readNumber_9 : decode cX3_readNumber 9 = .ok (.aload_n 0, 1) := by decide +kernel
theorem dX3_readNumber_10 : decode cX3_readNumber 10 = .ok (.invokevirtual 50, 3) := by decide +kernel
theorem dX3_readNumber_13 : decode cX3_readNumber 13 = .ok (.invokestatic 66, 3) := by decide +kernel
theorem dX3_readNumber_16 : decode cX3_readNumber 16 = .ok (.ifCond .eq 32, 3) := by decide +kernel
theorem dX3_readNumber_19 : decode cX3_readNumber 19 = .ok (.iload_n 1, 1) := by decide +kernel
theorem dX3_readNumber_20 : decode cX3_readNumber 20 = .ok (.bipush 10, 2) := by decide +kernel
theorem dX3_readNumber_22 : decode cX3_readNumber 22 = .ok (.imul, 1) := by decide +kernel
theorem dX3_readNumber_23 : decode cX3_readNumber 23 = .ok (.aload_n 0, 1) := by decide +kernel
theorem dX3_readNumber_24 : decode cX3_readNumber 24 = .ok (.invokevirtual 50, 3) := by decide +kernel
theorem dX3_readNumber_27 : decode cX3_readNumber 27 = .ok (.iadd, 1) := by decide +kernel
theorem dX3_readNumber_28 : decode cX3_readNumber 28 = .ok (.bipush 48, 2) := by decide +kernel
theorem dX3_readNumber_30 : decode cX3_readNumber 30 = .ok (.isub, 1) := by decide +kernel
theorem dX3_readNumber_31 : decode cX3_readNumber 31 = .ok (.istore_n 1, 1) := by decide +kernel
theorem dX3_readNumber_32 : decode cX3_readNumber 32 = .ok (.aload_n 0, 1) := by decide +kernel
theorem dX3_readNumber_33 : decode cX3_readNumber 33 = .ok (.dup, 1) := by decide +kernel
theorem dX3_readNumber_34 : decode cX3_readNumber 34 = .ok (.getfield 27, 3) := by decide +kernel
theorem dX3_readNumber_37 : decode cX3_readNumber 37 = .ok (.iconst 1, 1) := by decide +kernel
theorem dX3_readNumber_38 : decode cX3_readNumber 38 = .ok (.iadd, 1) := by decide +kernel
theorem dX3_readNumber_39 : decode cX3_readNumber 39 = .ok (.putfield 27, 3) := by decide +kernel
theorem dX3_readNumber_42 : decode cX3_readNumber 42 = .ok (.iinc 2 1, 3) := by decide +kernel
theorem dX3_readNumber_45 : decode cX3_readNumber 45 = .ok (.goto (-41), 3) := by decide +kernel
theorem dX3_readNumber_48 : decode cX3_readNumber 48 = .ok (.aload_n 0, 1) := by decide +kernel
theorem dX3_readNumber_49 : decode cX3_readNumber 49 = .ok (.getfield 14, 3) := by decide +kernel
theorem dX3_readNumber_52 : decode cX3_readNumber 52 = .ok (.iload_n 1, 1) := by decide +kernel
theorem dX3_readNumber_53 : decode cX3_readNumber 53 = .ok (.invokevirtual 60, 3) := by decide +kernel
theorem dX3_readNumber_56 : decode cX3_readNumber 56 = .ok (.return_, 1) := by decide +kernel
theorem dX3_readClosing_0 : decode cX3_readClosing 0 = .ok (.aload_n 0, 1) := by decide +kernel
theorem dX3_readClosing_1 : decode cX3_readClosing 1 = .ok (.invokevirtual 50, 3) := by decide +kernel
theorem dX3_readClosing_4 : decode cX3_readClosing 4 = .ok (.bipush 41, 2) := by decide +kernel
theorem dX3_readClosing_6 : decode cX3_readClosing 6 = .ok (.if_icmp .ne 16, 3) := by decide +kernel
theorem dX3_readClosing_9 : decode cX3_readClosing 9 = .ok (.aload_n 0, 1) := by decide +kernel
theorem dX3_readClosing_10 : decode cX3_readClosing 10 = .ok (.dup, 1) := by decide +kernel
theorem dX3_readClosing_11 : decode cX3_readClosing 11 = .ok (.getfield 27, 3) := by decide +kernel
theorem dX3_readClosing_14 : decode cX3_readClosing 14 = .ok (.iconst 1, 1) := by decide +kernel
theorem dX3_readClosing_15 : decode cX3_readClosing 15 = .ok (.iadd, 1) := by decide +kernel
theorem dX3_readClosing_16 : decode cX3_readClosing 16 = .ok (.putfield 27, 3) := by decide +kernel
theorem dX3_readClosing_19 : decode cX3_readClosing 19 = .ok (.goto 7, 3) := by decide +kernel
theorem dX3_readClosing_22 : decode cX3_readClosing 22 = .ok (.aload_n 0, 1) := by decide +kernel
theorem dX3_readClosing_23 : decode cX3_readClosing 23 = .ok (.invokevirtual 44, 3) := by decide +kernel
theorem dX3_readClosing_26 : decode cX3_readClosing 26 = .ok (.return_, 1) := by decide +kernel
theorem dX3_stopHere_0 : decode cX3_stopHere 0 = .ok (.aload_n 0, 1) := by decide +kernel
theorem dX3_stopHere_1 : decode cX3_stopHere 1 = .ok (.getfield 30, 3) := by decide +kernel
theorem dX3_stopHere_4 : decode cX3_stopHere 4 = .ok (.iconst (-1), 1) := by decide +kernel
theorem dX3_stopHere_5 : decode cX3_stopHere 5 = .ok (.if_icmp .ne 11, 3) := by decide +kernel
theorem dX3_stopHere_8 : decode cX3_stopHere 8 = .ok (.aload_n 0, 1) := by decide +kernel
theorem dX3_stopHere_9 : decode cX3_stopHere 9 = .ok (.aload_n 0, 1) := by decide +kernel
theorem dX3_stopHere_10 : decode cX3_stopHere 10 = .ok (.getfield 27, 3) := by decide +kernel
theorem dX3_stopHere_13 : decode cX3_stopHere 13 = .ok (.putfield 30, 3) := by decide +kernel
theorem dX3_stopHere_16 : decode cX3_stopHere 16 = .ok (.return_, 1) := by decide +kernel
theorem dX3_here_0 : decode cX3_here 0 = .ok (.aload_n 0, 1) := by decide +kernel
theorem dX3_here_1 : decode cX3_here 1 = .ok (.getfield 30, 3) := by decide +kernel
theorem dX3_here_4 : decode cX3_here 4 = .ok (.iconst (-1), 1) := by decide +kernel
theorem dX3_here_5 : decode cX3_here 5 = .ok (.if_icmp .ne 32, 3) := by decide +kernel
theorem dX3_here_8 : decode cX3_here 8 = .ok (.aload_n 0, 1) := by decide +kernel
theorem dX3_here_9 : decode cX3_here 9 = .ok (.getfield 27, 3) := by decide +kernel
theorem dX3_here_12 : decode cX3_here 12 = .ok (.aload_n 0, 1) := by decide +kernel
theorem dX3_here_13 : decode cX3_here 13 = .ok (.getfield 20, 3) := by decide +kernel
theorem dX3_here_16 : decode cX3_here 16 = .ok (.getfield 37, 3) := by decide +kernel
theorem dX3_here_19 : decode cX3_here 19 = .ok (.if_icmp .ge 18, 3) := by decide +kernel
theorem dX3_here_22 : decode cX3_here 22 = .ok (.aload_n 0, 1) := by decide +kernel
theorem dX3_here_23 : decode cX3_here 23 = .ok (.getfield 20, 3) := by decide +kernel
theorem dX3_here_26 : decode cX3_here 26 = .ok (.getfield 76, 3) := by decide +kernel
theorem dX3_here_29 : decode cX3_here 29 = .ok (.aload_n 0, 1) := by decide +kernel
theorem dX3_here_30 : decode cX3_here 30 = .ok (.getfield 27, 3) := by decide +kernel
theorem dX3_here_33 : decode cX3_here 33 = .ok (.iaload, 1) := by decide +kernel
theorem dX3_here_34 : decode cX3_here 34 = .ok (.goto 4, 3) := by decide +kernel
theorem dX3_here_37 : decode cX3_here 37 = .ok (.iconst (-1), 1) := by decide +kernel
theorem dX3_here_38 : decode cX3_here 38 = .ok (.ireturn, 1) := by decide +kernel
theorem dX3_nameHere_0 : decode cX3_nameHere 0 = .ok (.iconst 0, 1) := by decide +kernel
theorem dX3_nameHere_1 : decode cX3_nameHere 1 = .ok (.istore_n 1, 1) := by decide +kernel
theorem dX3_nameHere_2 : decode cX3_nameHere 2 = .ok (.iload_n 1, 1) := by decide +kernel
theorem dX3_nameHere_3 : decode cX3_nameHere 3 = .ok (.iconst 3, 1) := by decide +kernel
theorem dX3_nameHere_4 : decode cX3_nameHere 4 = .ok (.if_icmp .ge 30, 3) := by decide +kernel
theorem dX3_nameHere_7 : decode cX3_nameHere 7 = .ok (.getstatic 80, 3) := by decide +kernel
theorem dX3_nameHere_10 : decode cX3_nameHere 10 = .ok (.aload_n 0, 1) := by decide +kernel
theorem dX3_nameHere_11 : decode cX3_nameHere 11 = .ok (.getfield 23, 3) := by decide +kernel
theorem dX3_nameHere_14 : decode cX3_nameHere 14 = .ok (.iconst 3, 1) := by decide +kernel
theorem dX3_nameHere_15 : decode cX3_nameHere 15 = .ok (.imul, 1) := by decide +kernel
theorem dX3_nameHere_16 : decode cX3_nameHere 16 = .ok (.iload_n 1, 1) := by decide +kernel
theorem dX3_nameHere_17 : decode cX3_nameHere 17 = .ok (.iadd, 1) := by decide +kernel
theorem dX3_nameHere_18 : decode cX3_nameHere 18 = .ok (.caload, 1) := by decide +kernel
theorem dX3_nameHere_19 : decode cX3_nameHere 19 = .ok (.aload_n 0, 1) := by decide +kernel
theorem dX3_nameHere_20 : decode cX3_nameHere 20 = .ok (.invokevirtual 50, 3) := by decide +kernel
theorem dX3_nameHere_23 : decode cX3_nameHere 23 = .ok (.if_icmp .ne 5, 3) := by decide +kernel
theorem dX3_nameHere_26 : decode cX3_nameHere 26 = .ok (.iload_n 1, 1) := by decide +kernel
theorem dX3_nameHere_27 : decode cX3_nameHere 27 = .ok (.ireturn, 1) := by decide +kernel
theorem dX3_nameHere_28 : decode cX3_nameHere 28 = .ok (.iinc 1 1, 3) := by decide +kernel
theorem dX3_nameHere_31 : decode cX3_nameHere 31 = .ok (.goto (-29), 3) := by decide +kernel
theorem dX3_nameHere_34 : decode cX3_nameHere 34 = .ok (.iconst (-1), 1) := by decide +kernel
theorem dX3_nameHere_35 : decode cX3_nameHere 35 = .ok (.ireturn, 1) := by decide +kernel
theorem dX3_isDigit_0 : decode cX3_isDigit 0 = .ok (.iload_n 0, 1) := by decide +kernel
theorem dX3_isDigit_1 : decode cX3_isDigit 1 = .ok (.bipush 48, 2) := by decide +kernel
theorem dX3_isDigit_3 : decode cX3_isDigit 3 = .ok (.if_icmp .lt 13, 3) := by decide +kernel
theorem dX3_isDigit_6 : decode cX3_isDigit 6 = .ok (.iload_n 0, 1) := by decide +kernel
theorem dX3_isDigit_7 : decode cX3_isDigit 7 = .ok (.bipush 57, 2) := by decide +kernel
theorem dX3_isDigit_9 : decode cX3_isDigit 9 = .ok (.if_icmp .gt 7, 3) := by decide +kernel
theorem dX3_isDigit_12 : decode cX3_isDigit 12 = .ok (.iconst 1, 1) := by decide +kernel
theorem dX3_isDigit_13 : decode cX3_isDigit 13 = .ok (.goto 4, 3) := by decide +kernel
theorem dX3_isDigit_16 : decode cX3_isDigit 16 = .ok (.iconst 0, 1) := by decide +kernel
theorem dX3_isDigit_17 : decode cX3_isDigit 17 = .ok (.ireturn, 1) := by decide +kernel
theorem dX3_isSignOf_0 : decode cX3_isSignOf 0 = .ok (.iload_n 0, 1) := by decide +kernel
theorem dX3_isSignOf_1 : decode cX3_isSignOf 1 = .ok (.tableswitch 97 0 3 #[31, 43, 55, 79], 31) := by decide +kernel
theorem dX3_isSignOf_32 : decode cX3_isSignOf 32 = .ok (.iload_n 1, 1) := by decide +kernel
theorem dX3_isSignOf_33 : decode cX3_isSignOf 33 = .ok (.bipush 124, 2) := by decide +kernel
theorem dX3_isSignOf_35 : decode cX3_isSignOf 35 = .ok (.if_icmp .ne 7, 3) := by decide +kernel
theorem dX3_isSignOf_38 : decode cX3_isSignOf 38 = .ok (.iconst 1, 1) := by decide +kernel
theorem dX3_isSignOf_39 : decode cX3_isSignOf 39 = .ok (.goto 4, 3) := by decide +kernel
theorem dX3_isSignOf_42 : decode cX3_isSignOf 42 = .ok (.iconst 0, 1) := by decide +kernel
theorem dX3_isSignOf_43 : decode cX3_isSignOf 43 = .ok (.ireturn, 1) := by decide +kernel
theorem dX3_isSignOf_44 : decode cX3_isSignOf 44 = .ok (.iload_n 1, 1) := by decide +kernel
theorem dX3_isSignOf_45 : decode cX3_isSignOf 45 = .ok (.bipush 38, 2) := by decide +kernel
theorem dX3_isSignOf_47 : decode cX3_isSignOf 47 = .ok (.if_icmp .ne 7, 3) := by decide +kernel
theorem dX3_isSignOf_50 : decode cX3_isSignOf 50 = .ok (.iconst 1, 1) := by decide +kernel
theorem dX3_isSignOf_51 : decode cX3_isSignOf 51 = .ok (.goto 4, 3) := by decide +kernel
theorem dX3_isSignOf_54 : decode cX3_isSignOf 54 = .ok (.iconst 0, 1) := by decide +kernel
theorem dX3_isSignOf_55 : decode cX3_isSignOf 55 = .ok (.ireturn, 1) := by decide +kernel
theorem dX3_isSignOf_56 : decode cX3_isSignOf 56 = .ok (.iload_n 1, 1) := by decide +kernel
theorem dX3_isSignOf_57 : decode cX3_isSignOf 57 = .ok (.bipush 60, 2) := by decide +kernel
theorem dX3_isSignOf_59 : decode cX3_isSignOf 59 = .ok (.if_icmp .eq 15, 3) := by decide +kernel
theorem dX3_isSignOf_62 : decode cX3_isSignOf 62 = .ok (.iload_n 1, 1) := by decide +kernel
theorem dX3_isSignOf_63 : decode cX3_isSignOf 63 = .ok (.bipush 61, 2) := by decide +kernel
theorem dX3_isSignOf_65 : decode cX3_isSignOf 65 = .ok (.if_icmp .eq 9, 3) := by decide +kernel
theorem dX3_isSignOf_68 : decode cX3_isSignOf 68 = .ok (.iload_n 1, 1) := by decide +kernel
theorem dX3_isSignOf_69 : decode cX3_isSignOf 69 = .ok (.bipush 62, 2) := by decide +kernel
theorem dX3_isSignOf_71 : decode cX3_isSignOf 71 = .ok (.if_icmp .ne 7, 3) := by decide +kernel
theorem dX3_isSignOf_74 : decode cX3_isSignOf 74 = .ok (.iconst 1, 1) := by decide +kernel
theorem dX3_isSignOf_75 : decode cX3_isSignOf 75 = .ok (.goto 4, 3) := by decide +kernel
theorem dX3_isSignOf_78 : decode cX3_isSignOf 78 = .ok (.iconst 0, 1) := by decide +kernel
theorem dX3_isSignOf_79 : decode cX3_isSignOf 79 = .ok (.ireturn, 1) := by decide +kernel
theorem dX3_isSignOf_80 : decode cX3_isSignOf 80 = .ok (.iload_n 1, 1) := by decide +kernel
theorem dX3_isSignOf_81 : decode cX3_isSignOf 81 = .ok (.bipush 43, 2) := by decide +kernel
theorem dX3_isSignOf_83 : decode cX3_isSignOf 83 = .ok (.if_icmp .eq 9, 3) := by decide +kernel
theorem dX3_isSignOf_86 : decode cX3_isSignOf 86 = .ok (.iload_n 1, 1) := by decide +kernel
theorem dX3_isSignOf_87 : decode cX3_isSignOf 87 = .ok (.bipush 45, 2) := by decide +kernel
theorem dX3_isSignOf_89 : decode cX3_isSignOf 89 = .ok (.if_icmp .ne 7, 3) := by decide +kernel
theorem dX3_isSignOf_92 : decode cX3_isSignOf 92 = .ok (.iconst 1, 1) := by decide +kernel
theorem dX3_isSignOf_93 : decode cX3_isSignOf 93 = .ok (.goto 4, 3) := by decide +kernel
theorem dX3_isSignOf_96 : decode cX3_isSignOf 96 = .ok (.iconst 0, 1) := by decide +kernel
theorem dX3_isSignOf_97 : decode cX3_isSignOf 97 = .ok (.ireturn, 1) := by decide +kernel
theorem dX3_isSignOf_98 : decode cX3_isSignOf 98 = .ok (.iload_n 1, 1) := by decide +kernel
theorem dX3_isSignOf_99 : decode cX3_isSignOf 99 = .ok (.bipush 42, 2) := by decide +kernel
theorem dX3_isSignOf_101 : decode cX3_isSignOf 101 = .ok (.if_icmp .eq 15, 3) := by decide +kernel
theorem dX3_isSignOf_104 : decode cX3_isSignOf 104 = .ok (.iload_n 1, 1) := by decide +kernel
theorem dX3_isSignOf_105 : decode cX3_isSignOf 105 = .ok (.bipush 47, 2) := by decide +kernel
theorem dX3_isSignOf_107 : decode cX3_isSignOf 107 = .ok (.if_icmp .eq 9, 3) := by decide +kernel
theorem dX3_isSignOf_110 : decode cX3_isSignOf 110 = .ok (.iload_n 1, 1) := by decide +kernel
theorem dX3_isSignOf_111 : decode cX3_isSignOf 111 = .ok (.bipush 37, 2) := by decide +kernel
theorem dX3_isSignOf_113 : decode cX3_isSignOf 113 = .ok (.if_icmp .ne 7, 3) := by decide +kernel
theorem dX3_isSignOf_116 : decode cX3_isSignOf 116 = .ok (.iconst 1, 1) := by decide +kernel
theorem dX3_isSignOf_117 : decode cX3_isSignOf 117 = .ok (.goto 4, 3) := by decide +kernel
theorem dX3_isSignOf_120 : decode cX3_isSignOf 120 = .ok (.iconst 0, 1) := by decide +kernel
theorem dX3_isSignOf_121 : decode cX3_isSignOf 121 = .ok (.ireturn, 1) := by decide +kernel
theorem dX4_init_0 : decode cX4_init 0 = .ok (.aload_n 0, 1) := by decide +kernel
theorem dX4_init_1 : decode cX4_init 1 = .ok (.invokespecial 1, 3) := by decide +kernel
theorem dX4_init_4 : decode cX4_init 4 = .ok (.aload_n 0, 1) := by decide +kernel
theorem dX4_init_5 : decode cX4_init 5 = .ok (.iload_n 1, 1) := by decide +kernel
theorem dX4_init_6 : decode cX4_init 6 = .ok (.newarray .int, 2) := by decide +kernel
theorem dX4_init_8 : decode cX4_init 8 = .ok (.putfield 7, 3) := by decide +kernel
theorem dX4_init_11 : decode cX4_init 11 = .ok (.aload_n 0, 1) := by decide +kernel
theorem dX4_init_12 : decode cX4_init 12 = .ok (.iconst 0, 1) := by decide +kernel
theorem dX4_init_13 : decode cX4_init 13 = .ok (.putfield 13, 3) := by decide +kernel
theorem dX4_init_16 : decode cX4_init 16 = .ok (.return_, 1) := by decide +kernel
theorem dX4_add_0 : decode cX4_add 0 = .ok (.aload_n 0, 1) := by decide +kernel
theorem dX4_add_1 : decode cX4_add 1 = .ok (.getfield 13, 3) := by decide +kernel
theorem dX4_add_4 : decode cX4_add 4 = .ok (.aload_n 0, 1) := by decide +kernel
theorem dX4_add_5 : decode cX4_add 5 = .ok (.getfield 7, 3) := by decide +kernel
theorem dX4_add_8 : decode cX4_add 8 = .ok (.arraylength, 1) := by decide +kernel
theorem dX4_add_9 : decode cX4_add 9 = .ok (.if_icmp .ge 23, 3) := by decide +kernel
theorem dX4_add_12 : decode cX4_add 12 = .ok (.aload_n 0, 1) := by decide +kernel
theorem dX4_add_13 : decode cX4_add 13 = .ok (.getfield 7, 3) := by decide +kernel
theorem dX4_add_16 : decode cX4_add 16 = .ok (.aload_n 0, 1) := by decide +kernel
theorem dX4_add_17 : decode cX4_add 17 = .ok (.getfield 13, 3) := by decide +kernel
theorem dX4_add_20 : decode cX4_add 20 = .ok (.iload_n 1, 1) := by decide +kernel
theorem dX4_add_21 : decode cX4_add 21 = .ok (.iastore, 1) := by decide +kernel
theorem dX4_add_22 : decode cX4_add 22 = .ok (.aload_n 0, 1) := by decide +kernel
theorem dX4_add_23 : decode cX4_add 23 = .ok (.dup, 1) := by decide +kernel
theorem dX4_add_24 : decode cX4_add 24 = .ok (.getfield 13, 3) := by decide +kernel
theorem dX4_add_27 : decode cX4_add 27 = .ok (.iconst 1, 1) := by decide +kernel
theorem dX4_add_28 : decode cX4_add 28 = .ok (.iadd, 1) := by decide +kernel
theorem dX4_add_29 : decode cX4_add 29 = .ok (.putfield 13, 3) := by decide +kernel
theorem dX4_add_32 : decode cX4_add 32 = .ok (.return_, 1) := by decide +kernel
theorem dX4_copyFrom_0 : decode cX4_copyFrom 0 = .ok (.aload_n 0, 1) := by decide +kernel
theorem dX4_copyFrom_1 : decode cX4_copyFrom 1 = .ok (.aload_n 1, 1) := by decide +kernel
theorem dX4_copyFrom_2 : decode cX4_copyFrom 2 = .ok (.getfield 13, 3) := by decide +kernel
theorem dX4_copyFrom_5 : decode cX4_copyFrom 5 = .ok (.aload_n 0, 1) := by decide +kernel
theorem dX4_copyFrom_6 : decode cX4_copyFrom 6 = .ok (.getfield 7, 3) := by decide +kernel
theorem dX4_copyFrom_9 : decode cX4_copyFrom 9 = .ok (.arraylength, 1) := by decide +kernel
theorem dX4_copyFrom_10 : decode cX4_copyFrom 10 = .ok (.invokestatic 17, 3) := by decide +kernel
theorem dX4_copyFrom_13 : decode cX4_copyFrom 13 = .ok (.putfield 13, 3) := by decide +kernel
theorem dX4_copyFrom_16 : decode cX4_copyFrom 16 = .ok (.aload_n 1, 1) := by decide +kernel
theorem dX4_copyFrom_17 : decode cX4_copyFrom 17 = .ok (.getfield 7, 3) := by decide +kernel
theorem dX4_copyFrom_20 : decode cX4_copyFrom 20 = .ok (.iconst 0, 1) := by decide +kernel
theorem dX4_copyFrom_21 : decode cX4_copyFrom 21 = .ok (.aload_n 0, 1) := by decide +kernel
theorem dX4_copyFrom_22 : decode cX4_copyFrom 22 = .ok (.getfield 7, 3) := by decide +kernel
theorem dX4_copyFrom_25 : decode cX4_copyFrom 25 = .ok (.iconst 0, 1) := by decide +kernel
theorem dX4_copyFrom_26 : decode cX4_copyFrom 26 = .ok (.aload_n 0, 1) := by decide +kernel
theorem dX4_copyFrom_27 : decode cX4_copyFrom 27 = .ok (.getfield 13, 3) := by decide +kernel
theorem dX4_copyFrom_30 : decode cX4_copyFrom 30 = .ok (.invokestatic 23, 3) := by decide +kernel
theorem dX4_copyFrom_33 : decode cX4_copyFrom 33 = .ok (.return_, 1) := by decide +kernel
theorem dX5_init_0 : decode cX5_init 0 = .ok (.aload_n 0, 1) := by decide +kernel
theorem dX5_init_1 : decode cX5_init 1 = .ok (.invokespecial 3, 3) := by decide +kernel
theorem dX5_init_4 : decode cX5_init 4 = .ok (.aload_n 0, 1) := by decide +kernel
theorem dX5_init_5 : decode cX5_init 5 = .ok (.iconst 4, 1) := by decide +kernel
theorem dX5_init_6 : decode cX5_init 6 = .ok (.newarray .int, 2) := by decide +kernel
theorem dX5_init_8 : decode cX5_init 8 = .ok (.putfield 9, 3) := by decide +kernel
theorem dX5_init_11 : decode cX5_init 11 = .ok (.aload_n 0, 1) := by decide +kernel
theorem dX5_init_12 : decode cX5_init 12 = .ok (.iconst 4, 1) := by decide +kernel
theorem dX5_init_13 : decode cX5_init 13 = .ok (.newarray .int, 2) := by decide +kernel
theorem dX5_init_15 : decode cX5_init 15 = .ok (.putfield 15, 3) := by decide +kernel
theorem dX5_init_18 : decode cX5_init 18 = .ok (.aload_n 0, 1) := by decide +kernel
theorem dX5_init_19 : decode cX5_init 19 = .ok (.bipush 96, 2) := by decide +kernel
theorem dX5_init_21 : decode cX5_init 21 = .ok (.newarray .int, 2) := by decide +kernel
theorem dX5_init_23 : decode cX5_init 23 = .ok (.putfield 18, 3) := by decide +kernel
theorem dX5_init_26 : decode cX5_init 26 = .ok (.return_, 1) := by decide +kernel
theorem dX5_isSheet_0 : decode cX5_isSheet 0 = .ok (.iload_n 0, 1) := by decide +kernel
theorem dX5_isSheet_1 : decode cX5_isSheet 1 = .ok (.ifCond .lt 12, 3) := by decide +kernel
theorem dX5_isSheet_4 : decode cX5_isSheet 4 = .ok (.iload_n 0, 1) := by decide +kernel
theorem dX5_isSheet_5 : decode cX5_isSheet 5 = .ok (.iconst 4, 1) := by decide +kernel
theorem dX5_isSheet_6 : decode cX5_isSheet 6 = .ok (.if_icmp .ge 7, 3) := by decide +kernel
theorem dX5_isSheet_9 : decode cX5_isSheet 9 = .ok (.iconst 1, 1) := by decide +kernel
theorem dX5_isSheet_10 : decode cX5_isSheet 10 = .ok (.goto 4, 3) := by decide +kernel
theorem dX5_isSheet_13 : decode cX5_isSheet 13 = .ok (.iconst 0, 1) := by decide +kernel
theorem dX5_isSheet_14 : decode cX5_isSheet 14 = .ok (.ireturn, 1) := by decide +kernel
theorem dX5_isMissing_0 : decode cX5_isMissing 0 = .ok (.aload_n 0, 1) := by decide +kernel
theorem dX5_isMissing_1 : decode cX5_isMissing 1 = .ok (.getfield 9, 3) := by decide +kernel
theorem dX5_isMissing_4 : decode cX5_isMissing 4 = .ok (.iload_n 1, 1) := by decide +kernel
theorem dX5_isMissing_5 : decode cX5_isMissing 5 = .ok (.iaload, 1) := by decide +kernel
theorem dX5_isMissing_6 : decode cX5_isMissing 6 = .ok (.ifCond .ne 7, 3) := by decide +kernel
theorem dX5_isMissing_9 : decode cX5_isMissing 9 = .ok (.iconst 1, 1) := by decide +kernel
theorem dX5_isMissing_10 : decode cX5_isMissing 10 = .ok (.goto 4, 3) := by decide +kernel
theorem dX5_isMissing_13 : decode cX5_isMissing 13 = .ok (.iconst 0, 1) := by decide +kernel
theorem dX5_isMissing_14 : decode cX5_isMissing 14 = .ok (.ireturn, 1) := by decide +kernel
theorem dX5_renew_0 : decode cX5_renew 0 = .ok (.aload_n 0, 1) := by decide +kernel
theorem dX5_renew_1 : decode cX5_renew 1 = .ok (.getfield 9, 3) := by decide +kernel
theorem dX5_renew_4 : decode cX5_renew 4 = .ok (.iload_n 1, 1) := by decide +kernel
theorem dX5_renew_5 : decode cX5_renew 5 = .ok (.iload_n 2, 1) := by decide +kernel
theorem dX5_renew_6 : decode cX5_renew 6 = .ok (.iastore, 1) := by decide +kernel
theorem dX5_renew_7 : decode cX5_renew 7 = .ok (.aload_n 0, 1) := by decide +kernel
theorem dX5_renew_8 : decode cX5_renew 8 = .ok (.getfield 15, 3) := by decide +kernel
theorem dX5_renew_11 : decode cX5_renew 11 = .ok (.iload_n 1, 1) := by decide +kernel
theorem dX5_renew_12 : decode cX5_renew 12 = .ok (.iload_n 3, 1) := by decide +kernel
theorem dX5_renew_13 : decode cX5_renew 13 = .ok (.iastore, 1) := by decide +kernel
theorem dX5_renew_14 : decode cX5_renew 14 = .ok (.iconst 0, 1) := by decide +kernel
theorem dX5_renew_15 : decode cX5_renew 15 = .ok (.istore 4, 2) := by decide +kernel
theorem dX5_renew_17 : decode cX5_renew 17 = .ok (.iload 4, 2) := by decide +kernel
theorem dX5_renew_19 : decode cX5_renew 19 = .ok (.bipush 24, 2) := by decide +kernel
theorem dX5_renew_21 : decode cX5_renew 21 = .ok (.if_icmp .ge 22, 3) := by decide +kernel
theorem dX5_renew_24 : decode cX5_renew 24 = .ok (.aload_n 0, 1) := by decide +kernel
theorem dX5_renew_25 : decode cX5_renew 25 = .ok (.getfield 18, 3) := by decide +kernel
theorem dX5_renew_28 : decode cX5_renew 28 = .ok (.iload_n 1, 1) := by decide +kernel
theorem dX5_renew_29 : decode cX5_renew 29 = .ok (.bipush 24, 2) := by decide +kernel
theorem dX5_renew_31 : decode cX5_renew 31 = .ok (.imul, 1) := by decide +kernel
theorem dX5_renew_32 : decode cX5_renew 32 = .ok (.iload 4, 2) := by decide +kernel
theorem dX5_renew_34 : decode cX5_renew 34 = .ok (.iadd, 1) := by decide +kernel
theorem dX5_renew_35 : decode cX5_renew 35 = .ok (.iconst 0, 1) := by decide +kernel
theorem dX5_renew_36 : decode cX5_renew 36 = .ok (.iastore, 1) := by decide +kernel
theorem dX5_renew_37 : decode cX5_renew 37 = .ok (.iinc 4 1, 3) := by decide +kernel
theorem dX5_renew_40 : decode cX5_renew 40 = .ok (.goto (-23), 3) := by decide +kernel
theorem dX5_renew_43 : decode cX5_renew 43 = .ok (.return_, 1) := by decide +kernel
theorem dX5_numberAt_0 : decode cX5_numberAt 0 = .ok (.aload_n 0, 1) := by decide +kernel
theorem dX5_numberAt_1 : decode cX5_numberAt 1 = .ok (.getfield 18, 3) := by decide +kernel
theorem dX5_numberAt_4 : decode cX5_numberAt 4 = .ok (.iload_n 1, 1) := by decide +kernel
theorem dX5_numberAt_5 : decode cX5_numberAt 5 = .ok (.bipush 24, 2) := by decide +kernel
theorem dX5_numberAt_7 : decode cX5_numberAt 7 = .ok (.imul, 1) := by decide +kernel
theorem dX5_numberAt_8 : decode cX5_numberAt 8 = .ok (.iload_n 2, 1) := by decide +kernel
theorem dX5_numberAt_9 : decode cX5_numberAt 9 = .ok (.iadd, 1) := by decide +kernel
theorem dX5_numberAt_10 : decode cX5_numberAt 10 = .ok (.iaload, 1) := by decide +kernel
theorem dX5_numberAt_11 : decode cX5_numberAt 11 = .ok (.ireturn, 1) := by decide +kernel
theorem dX5_setNumber_0 : decode cX5_setNumber 0 = .ok (.aload_n 0, 1) := by decide +kernel
theorem dX5_setNumber_1 : decode cX5_setNumber 1 = .ok (.getfield 9, 3) := by decide +kernel
theorem dX5_setNumber_4 : decode cX5_setNumber 4 = .ok (.iload_n 1, 1) := by decide +kernel
theorem dX5_setNumber_5 : decode cX5_setNumber 5 = .ok (.iaload, 1) := by decide +kernel
theorem dX5_setNumber_6 : decode cX5_setNumber 6 = .ok (.bipush 8, 2) := by decide +kernel
theorem dX5_setNumber_8 : decode cX5_setNumber 8 = .ok (.if_icmp .ne 8, 3) := by decide +kernel
theorem dX5_setNumber_11 : decode cX5_setNumber 11 = .ok (.iload_n 3, 1) := by decide +kernel
theorem dX5_setNumber_12 : decode cX5_setNumber 12 = .ok (.i2b, 1) := by decide +kernel
theorem dX5_setNumber_13 : decode cX5_setNumber 13 = .ok (.goto 20, 3) := by decide +kernel
theorem dX5_setNumber_16 : decode cX5_setNumber 16 = .ok (.aload_n 0, 1) := by decide +kernel
theorem dX5_setNumber_17 : decode cX5_setNumber 17 = .ok (.getfield 9, 3) := by decide +kernel
theorem dX5_setNumber_20 : decode cX5_setNumber 20 = .ok (.iload_n 1, 1) := by decide +kernel
theorem dX5_setNumber_21 : decode cX5_setNumber 21 = .ok (.iaload, 1) := by decide +kernel
theorem dX5_setNumber_22 : decode cX5_setNumber 22 = .ok (.bipush 16, 2) := by decide +kernel
theorem dX5_setNumber_24 : decode cX5_setNumber 24 = .ok (.if_icmp .ne 8, 3) := by decide +kernel
theorem dX5_setNumber_27 : decode cX5_setNumber 27 = .ok (.iload_n 3, 1) := by decide +kernel
theorem dX5_setNumber_28 : decode cX5_setNumber 28 = .ok (.i2s, 1) := by decide +kernel
theorem dX5_setNumber_29 : decode cX5_setNumber 29 = .ok (.goto 4, 3) := by decide +kernel
theorem dX5_setNumber_32 : decode cX5_setNumber 32 = .ok (.iload_n 3, 1) := by decide +kernel
theorem dX5_setNumber_33 : decode cX5_setNumber 33 = .ok (.istore 4, 2) := by decide +kernel
theorem dX5_setNumber_35 : decode cX5_setNumber 35 = .ok (.aload_n 0, 1) := by decide +kernel
theorem dX5_setNumber_36 : decode cX5_setNumber 36 = .ok (.getfield 18, 3) := by decide +kernel
theorem dX5_setNumber_39 : decode cX5_setNumber 39 = .ok (.iload_n 1, 1) := by decide +kernel
theorem dX5_setNumber_40 : decode cX5_setNumber 40 = .ok (.bipush 24, 2) := by decide +kernel
theorem dX5_setNumber_42 : decode cX5_setNumber 42 = .ok (.imul, 1) := by decide +kernel
theorem dX5_setNumber_43 : decode cX5_setNumber 43 = .ok (.iload_n 2, 1) := by decide +kernel
theorem dX5_setNumber_44 : decode cX5_setNumber 44 = .ok (.iadd, 1) := by decide +kernel
theorem dX5_setNumber_45 : decode cX5_setNumber 45 = .ok (.iload 4, 2) := by decide +kernel
theorem dX5_setNumber_47 : decode cX5_setNumber 47 = .ok (.iastore, 1) := by decide +kernel
theorem dX5_setNumber_48 : decode cX5_setNumber 48 = .ok (.return_, 1) := by decide +kernel
theorem dX5_stand_0 : decode cX5_stand 0 = .ok (.iload_n 2, 1) := by decide +kernel
theorem dX5_stand_1 : decode cX5_stand 1 = .ok (.ifCond .lt 29, 3) := by decide +kernel
theorem dX5_stand_4 : decode cX5_stand 4 = .ok (.iload_n 3, 1) := by decide +kernel
theorem dX5_stand_5 : decode cX5_stand 5 = .ok (.aload_n 0, 1) := by decide +kernel
theorem dX5_stand_6 : decode cX5_stand 6 = .ok (.getfield 15, 3) := by decide +kernel
theorem dX5_stand_9 : decode cX5_stand 9 = .ok (.iload_n 1, 1) := by decide +kernel
theorem dX5_stand_10 : decode cX5_stand 10 = .ok (.iaload, 1) := by decide +kernel
theorem dX5_stand_11 : decode cX5_stand 11 = .ok (.if_icmp .gt 19, 3) := by decide +kernel
theorem dX5_stand_14 : decode cX5_stand 14 = .ok (.iload_n 2, 1) := by decide +kernel
theorem dX5_stand_15 : decode cX5_stand 15 = .ok (.aload_n 0, 1) := by decide +kernel
theorem dX5_stand_16 : decode cX5_stand 16 = .ok (.getfield 15, 3) := by decide +kernel
theorem dX5_stand_19 : decode cX5_stand 19 = .ok (.iload_n 1, 1) := by decide +kernel
theorem dX5_stand_20 : decode cX5_stand 20 = .ok (.iaload, 1) := by decide +kernel
theorem dX5_stand_21 : decode cX5_stand 21 = .ok (.iload_n 3, 1) := by decide +kernel
theorem dX5_stand_22 : decode cX5_stand 22 = .ok (.isub, 1) := by decide +kernel
theorem dX5_stand_23 : decode cX5_stand 23 = .ok (.if_icmp .gt 7, 3) := by decide +kernel
theorem dX5_stand_26 : decode cX5_stand 26 = .ok (.iconst 1, 1) := by decide +kernel
theorem dX5_stand_27 : decode cX5_stand 27 = .ok (.goto 4, 3) := by decide +kernel
theorem dX5_stand_30 : decode cX5_stand 30 = .ok (.iconst 0, 1) := by decide +kernel
theorem dX5_stand_31 : decode cX5_stand 31 = .ok (.ireturn, 1) := by decide +kernel
theorem dX5_copyNumbers_0 : decode cX5_copyNumbers 0 = .ok (.iload_n 1, 1) := by decide +kernel
theorem dX5_copyNumbers_1 : decode cX5_copyNumbers 1 = .ok (.bipush 24, 2) := by decide +kernel
theorem dX5_copyNumbers_3 : decode cX5_copyNumbers 3 = .ok (.imul, 1) := by decide +kernel
theorem dX5_copyNumbers_4 : decode cX5_copyNumbers 4 = .ok (.iload_n 2, 1) := by decide +kernel
theorem dX5_copyNumbers_5 : decode cX5_copyNumbers 5 = .ok (.iadd, 1) := by decide +kernel
theorem dX5_copyNumbers_6 : decode cX5_copyNumbers 6 = .ok (.istore 6, 2) := by decide +kernel
theorem dX5_copyNumbers_8 : decode cX5_copyNumbers 8 = .ok (.iload_n 3, 1) := by decide +kernel
theorem dX5_copyNumbers_9 : decode cX5_copyNumbers 9 = .ok (.bipush 24, 2) := by decide +kernel
theorem dX5_copyNumbers_11 : decode cX5_copyNumbers 11 = .ok (.imul, 1) := by decide +kernel
theorem dX5_copyNumbers_12 : decode cX5_copyNumbers 12 = .ok (.iload 4, 2) := by decide +kernel
theorem dX5_copyNumbers_14 : decode cX5_copyNumbers 14 = .ok (.iadd, 1) := by decide +kernel
theorem dX5_copyNumbers_15 : decode cX5_copyNumbers 15 = .ok (.istore 7, 2) := by decide +kernel
theorem dX5_copyNumbers_17 : decode cX5_copyNumbers 17 = .ok (.aload_n 0, 1) := by decide +kernel
theorem dX5_copyNumbers_18 : decode cX5_copyNumbers 18 = .ok (.getfield 18, 3) := by decide +kernel
theorem dX5_copyNumbers_21 : decode cX5_copyNumbers 21 = .ok (.iload 6, 2) := by decide +kernel
theorem dX5_copyNumbers_23 : decode cX5_copyNumbers 23 = .ok (.aload_n 0, 1) := by decide +kernel
theorem dX5_copyNumbers_24 : decode cX5_copyNumbers 24 = .ok (.getfield 18, 3) := by decide +kernel
theorem dX5_copyNumbers_27 : decode cX5_copyNumbers 27 = .ok (.iload 7, 2) := by decide +kernel
theorem dX5_copyNumbers_29 : decode cX5_copyNumbers 29 = .ok (.iload 5, 2) := by decide +kernel
theorem dX5_copyNumbers_31 : decode cX5_copyNumbers 31 = .ok (.invokestatic 21, 3) := by decide +kernel
theorem dX5_copyNumbers_34 : decode cX5_copyNumbers 34 = .ok (.return_, 1) := by decide +kernel
theorem dX6_init_0 : decode cX6_init 0 = .ok (.aload_n 0, 1) := by decide +kernel
theorem dX6_init_1 : decode cX6_init 1 = .ok (.invokespecial 3, 3) := by decide +kernel
theorem dX6_init_4 : decode cX6_init 4 = .ok (.aload_n 0, 1) := by decide +kernel
theorem dX6_init_5 : decode cX6_init 5 = .ok (.new 9, 3) := by decide +kernel
theorem dX6_init_8 : decode cX6_init 8 = .ok (.dup, 1) := by decide +kernel
theorem dX6_init_9 : decode cX6_init 9 = .ok (.bipush 60, 2) := by decide +kernel
theorem dX6_init_11 : decode cX6_init 11 = .ok (.invokespecial 11, 3) := by decide +kernel
theorem dX6_init_14 : decode cX6_init 14 = .ok (.putfield 14, 3) := by decide +kernel
theorem dX6_init_17 : decode cX6_init 17 = .ok (.aload_n 0, 1) := by decide +kernel
theorem dX6_init_18 : decode cX6_init 18 = .ok (.bipush 60, 2) := by decide +kernel
theorem dX6_init_20 : decode cX6_init 20 = .ok (.newarray .int, 2) := by decide +kernel
theorem dX6_init_22 : decode cX6_init 22 = .ok (.putfield 20, 3) := by decide +kernel
theorem dX6_init_25 : decode cX6_init 25 = .ok (.return_, 1) := by decide +kernel
theorem dX6_isThere_0 : decode cX6_isThere 0 = .ok (.aload_n 0, 1) := by decide +kernel
theorem dX6_isThere_1 : decode cX6_isThere 1 = .ok (.getfield 14, 3) := by decide +kernel
theorem dX6_isThere_4 : decode cX6_isThere 4 = .ok (.getfield 24, 3) := by decide +kernel
theorem dX6_isThere_7 : decode cX6_isThere 7 = .ok (.ifCond .le 7, 3) := by decide +kernel
theorem dX6_isThere_10 : decode cX6_isThere 10 = .ok (.iconst 1, 1) := by decide +kernel
theorem dX6_isThere_11 : decode cX6_isThere 11 = .ok (.goto 4, 3) := by decide +kernel
theorem dX6_isThere_14 : decode cX6_isThere 14 = .ok (.iconst 0, 1) := by decide +kernel
theorem dX6_isThere_15 : decode cX6_isThere 15 = .ok (.ireturn, 1) := by decide +kernel
theorem dX6_gives_0 : decode cX6_gives 0 = .ok (.iconst 0, 1) := by decide +kernel
theorem dX6_gives_1 : decode cX6_gives 1 = .ok (.istore 4, 2) := by decide +kernel
theorem dX6_gives_3 : decode cX6_gives 3 = .ok (.iconst 0, 1) := by decide +kernel
theorem dX6_gives_4 : decode cX6_gives 4 = .ok (.istore 5, 2) := by decide +kernel
theorem dX6_gives_6 : decode cX6_gives 6 = .ok (.iload 5, 2) := by decide +kernel
theorem dX6_gives_8 : decode cX6_gives 8 = .ok (.aload_n 0, 1) := by decide +kernel
theorem dX6_gives_9 : decode cX6_gives 9 = .ok (.getfield 14, 3) := by decide +kernel
theorem dX6_gives_12 : decode cX6_gives 12 = .ok (.getfield 24, 3) := by decide +kernel
theorem dX6_gives_15 : decode cX6_gives 15 = .ok (.if_icmp .ge 145, 3) := by decide +kernel
theorem dX6_gives_18 : decode cX6_gives 18 = .ok (.aload_n 0, 1) := by decide +kernel
theorem dX6_gives_19 : decode cX6_gives 19 = .ok (.getfield 14, 3) := by decide +kernel
theorem dX6_gives_22 : decode cX6_gives 22 = .ok (.getfield 28, 3) := by decide +kernel
theorem dX6_gives_25 : decode cX6_gives 25 = .ok (.iload 5, 2) := by decide +kernel
theorem dX6_gives_27 : decode cX6_gives 27 = .ok (.iaload, 1) := by decide +kernel
theorem dX6_gives_28 : decode cX6_gives 28 = .ok (.istore 6, 2) := by decide +kernel
theorem dX6_gives_30 : decode cX6_gives 30 = .ok (.iload 6, 2) := by decide +kernel
theorem dX6_gives_32 : decode cX6_gives 32 = .ok (.sipush 20000, 3) := by decide +kernel
theorem dX6_gives_35 : decode cX6_gives 35 = .ok (.if_icmp .ge 34, 3) := by decide +kernel
theorem dX6_gives_38 : decode cX6_gives 38 = .ok (.iload 4, 2) := by decide +kernel
theorem dX6_gives_40 : decode cX6_gives 40 = .ok (.aload_n 0, 1) := by decide +kernel
theorem dX6_gives_41 : decode cX6_gives 41 = .ok (.getfield 20, 3) := by decide +kernel
theorem dX6_gives_44 : decode cX6_gives 44 = .ok (.arraylength, 1) := by decide +kernel
theorem dX6_gives_45 : decode cX6_gives 45 = .ok (.if_icmp .ge 24, 3) := by decide +kernel
theorem dX6_gives_48 : decode cX6_gives 48 = .ok (.aload_n 0, 1) := by decide +kernel
theorem dX6_gives_49 : decode cX6_gives 49 = .ok (.getfield 20, 3) := by decide +kernel
theorem dX6_gives_52 : decode cX6_gives 52 = .ok (.iload 4, 2) := by decide +kernel
theorem dX6_gives_54 : decode cX6_gives 54 = .ok (.iload 6, 2) := by decide +kernel
theorem dX6_gives_56 : decode cX6_gives 56 = .ok (.iload_n 1, 1) := by decide +kernel
theorem dX6_gives_57 : decode cX6_gives 57 = .ok (.iload_n 2, 1) := by decide +kernel
theorem dX6_gives_58 : decode cX6_gives 58 = .ok (.iload_n 3, 1) := by decide +kernel
theorem dX6_gives_59 : decode cX6_gives 59 = .ok (.invokestatic 31, 3) := by decide +kernel
theorem dX6_gives_62 : decode cX6_gives 62 = .ok (.iastore, 1) := by decide +kernel
theorem dX6_gives_63 : decode cX6_gives 63 = .ok (.iinc 4 1, 3) := by decide +kernel
theorem dX6_gives_66 : decode cX6_gives 66 = .ok (.goto 88, 3) := by decide +kernel
theorem dX6_gives_69 : decode cX6_gives 69 = .ok (.iload 6, 2) := by decide +kernel
theorem dX6_gives_71 : decode cX6_gives 71 = .ok (.sipush 20033, 3) := by decide +kernel
theorem dX6_gives_74 : decode cX6_gives 74 = .ok (.if_icmp .ne 37, 3) := by decide +kernel
theorem dX6_gives_77 : decode cX6_gives 77 = .ok (.iload 4, 2) := by decide +kernel
theorem dX6_gives_79 : decode cX6_gives 79 = .ok (.ifCond .le 32, 3) := by decide +kernel
theorem dX6_gives_82 : decode cX6_gives 82 = .ok (.aload_n 0, 1) := by decide +kernel
theorem dX6_gives_83 : decode cX6_gives 83 = .ok (.getfield 20, 3) := by decide +kernel
theorem dX6_gives_86 : decode cX6_gives 86 = .ok (.iload 4, 2) := by decide +kernel
theorem dX6_gives_88 : decode cX6_gives 88 = .ok (.iconst 1, 1) := by decide +kernel
theorem dX6_gives_89 : decode cX6_gives 89 = .ok (.isub, 1) := by decide +kernel
theorem dX6_gives_90 : decode cX6_gives 90 = .ok (.aload_n 0, 1) := by decide +kernel
theorem dX6_gives_91 : decode cX6_gives 91 = .ok (.getfield 20, 3) := by decide +kernel
theorem dX6_gives_94 : decode cX6_gives 94 = .ok (.iload 4, 2) := by decide +kernel
theorem dX6_gives_96 : decode cX6_gives 96 = .ok (.iconst 1, 1) := by decide +kernel
theorem dX6_gives_97 : decode cX6_gives 97 = .ok (.isub, 1) := by decide +kernel
theorem dX6_gives_98 : decode cX6_gives 98 = .ok (.iaload, 1) := by decide +kernel
theorem dX6_gives_99 : decode cX6_gives 99 = .ok (.ifCond .ne 7, 3) := by decide +kernel
theorem dX6_gives_102 : decode cX6_gives 102 = .ok (.iconst 1, 1) := by decide +kernel
theorem dX6_gives_103 : decode cX6_gives 103 = .ok (.goto 4, 3) := by decide +kernel
theorem dX6_gives_106 : decode cX6_gives 106 = .ok (.iconst 0, 1) := by decide +kernel
theorem dX6_gives_107 : decode cX6_gives 107 = .ok (.iastore, 1) := by decide +kernel
theorem dX6_gives_108 : decode cX6_gives 108 = .ok (.goto 46, 3) := by decide +kernel
theorem dX6_gives_111 : decode cX6_gives 111 = .ok (.iload 4, 2) := by decide +kernel
theorem dX6_gives_113 : decode cX6_gives 113 = .ok (.iconst 1, 1) := by decide +kernel
theorem dX6_gives_114 : decode cX6_gives 114 = .ok (.if_icmp .le 40, 3) := by decide +kernel
theorem dX6_gives_117 : decode cX6_gives 117 = .ok (.iinc 4 (-1), 3) := by decide +kernel
theorem dX6_gives_120 : decode cX6_gives 120 = .ok (.aload_n 0, 1) := by decide +kernel
theorem dX6_gives_121 : decode cX6_gives 121 = .ok (.getfield 20, 3) := by decide +kernel
theorem dX6_gives_124 : decode cX6_gives 124 = .ok (.iload 4, 2) := by decide +kernel
theorem dX6_gives_126 : decode cX6_gives 126 = .ok (.iconst 1, 1) := by decide +kernel
theorem dX6_gives_127 : decode cX6_gives 127 = .ok (.isub, 1) := by decide +kernel
theorem dX6_gives_128 : decode cX6_gives 128 = .ok (.iload 6, 2) := by decide +kernel
theorem dX6_gives_130 : decode cX6_gives 130 = .ok (.sipush 20000, 3) := by decide +kernel
theorem dX6_gives_133 : decode cX6_gives 133 = .ok (.isub, 1) := by decide +kernel
theorem dX6_gives_134 : decode cX6_gives 134 = .ok (.aload_n 0, 1) := by decide +kernel
theorem dX6_gives_135 : decode cX6_gives 135 = .ok (.getfield 20, 3) := by decide +kernel
theorem dX6_gives_138 : decode cX6_gives 138 = .ok (.iload 4, 2) := by decide +kernel
theorem dX6_gives_140 : decode cX6_gives 140 = .ok (.iconst 1, 1) := by decide +kernel
theorem dX6_gives_141 : decode cX6_gives 141 = .ok (.isub, 1) := by decide +kernel
theorem dX6_gives_142 : decode cX6_gives 142 = .ok (.iaload, 1) := by decide +kernel
theorem dX6_gives_143 : decode cX6_gives 143 = .ok (.aload_n 0, 1) := by decide +kernel
theorem dX6_gives_144 : decode cX6_gives 144 = .ok (.getfield 20, 3) := by decide +kernel
theorem dX6_gives_147 : decode cX6_gives 147 = .ok (.iload 4, 2) := by decide +kernel
theorem dX6_gives_149 : decode cX6_gives 149 = .ok (.iaload, 1) := by decide +kernel
theorem dX6_gives_150 : decode cX6_gives 150 = .ok (.invokestatic 35, 3) := by decide +kernel
theorem dX6_gives_153 : decode cX6_gives 153 = .ok (.iastore, 1) := by decide +kernel
theorem dX6_gives_154 : decode cX6_gives 154 = .ok (.iinc 5 1, 3) := by decide +kernel
theorem dX6_gives_157 : decode cX6_gives 157 = .ok (.goto (-151), 3) := by decide +kernel
theorem dX6_gives_160 : decode cX6_gives 160 = .ok (.aload_n 0, 1) := by decide +kernel
theorem dX6_gives_161 : decode cX6_gives 161 = .ok (.getfield 20, 3) := by decide +kernel
theorem dX6_gives_164 : decode cX6_gives 164 = .ok (.iconst 0, 1) := by decide +kernel
theorem dX6_gives_165 : decode cX6_gives 165 = .ok (.iaload, 1) := by decide +kernel
theorem dX6_gives_166 : decode cX6_gives 166 = .ok (.ireturn, 1) := by decide +kernel
theorem dX6_operand_0 : decode cX6_operand 0 = .ok (.iload_n 0, 1) := by decide +kernel
theorem dX6_operand_1 : decode cX6_operand 1 = .ok (.tableswitch 33 10000 10002 #[27, 29, 31], 27) := by decide +kernel
theorem dX6_operand_28 : decode cX6_operand 28 = .ok (.iload_n 1, 1) := by decide +kernel
theorem dX6_operand_29 : decode cX6_operand 29 = .ok (.ireturn, 1) := by decide +kernel
theorem dX6_operand_30 : decode cX6_operand 30 = .ok (.iload_n 2, 1) := by decide +kernel
theorem dX6_operand_31 : decode cX6_operand 31 = .ok (.ireturn, 1) := by decide +kernel
theorem dX6_operand_32 : decode cX6_operand 32 = .ok (.iload_n 3, 1) := by decide +kernel
theorem dX6_operand_33 : decode cX6_operand 33 = .ok (.ireturn, 1) := by decide +kernel
theorem dX6_operand_34 : decode cX6_operand 34 = .ok (.iload_n 0, 1) := by decide +kernel
theorem dX6_operand_35 : decode cX6_operand 35 = .ok (.ireturn, 1) := by decide +kernel
theorem dX6_joined_0 : decode cX6_joined 0 = .ok (.iload_n 0, 1) := by decide +kernel
theorem dX6_joined_1 : decode cX6_joined 1 = .ok (.lookupswitch 188 #[(37, 176), (38, 105), (42, 160), (43, 152), (45, 156), (47, 164), (60, 119), (61, 130), (62, 141), (124, 91)], 91) := by decide +kernel
theorem dX6_joined_92 : decode cX6_joined 92 = .ok (.iload_n 1, 1) := by decide +kernel
theorem dX6_joined_93 : decode cX6_joined 93 = .ok (.ifCond .ne 7, 3) := by decide +kernel
theorem dX6_joined_96 : decode cX6_joined 96 = .ok (.iload_n 2, 1) := by decide +kernel
theorem dX6_joined_97 : decode cX6_joined 97 = .ok (.ifCond .eq 7, 3) := by decide +kernel
theorem dX6_joined_100 : decode cX6_joined 100 = .ok (.iconst 1, 1) := by decide +kernel
theorem dX6_joined_101 : decode cX6_joined 101 = .ok (.goto 4, 3) := by decide +kernel
theorem dX6_joined_104 : decode cX6_joined 104 = .ok (.iconst 0, 1) := by decide +kernel
theorem dX6_joined_105 : decode cX6_joined 105 = .ok (.ireturn, 1) := by decide +kernel
theorem dX6_joined_106 : decode cX6_joined 106 = .ok (.iload_n 1, 1) := by decide +kernel
theorem dX6_joined_107 : decode cX6_joined 107 = .ok (.ifCond .eq 11, 3) := by decide +kernel
theorem dX6_joined_110 : decode cX6_joined 110 = .ok (.iload_n 2, 1) := by decide +kernel
theorem dX6_joined_111 : decode cX6_joined 111 = .ok (.ifCond .eq 7, 3) := by decide +kernel
theorem dX6_joined_114 : decode cX6_joined 114 = .ok (.iconst 1, 1) := by decide +kernel
theorem dX6_joined_115 : decode cX6_joined 115 = .ok (.goto 4, 3) := by decide +kernel
theorem dX6_joined_118 : decode cX6_joined 118 = .ok (.iconst 0, 1) := by decide +kernel
theorem dX6_joined_119 : decode cX6_joined 119 = .ok (.ireturn, 1) := by decide +kernel
theorem dX6_joined_120 : decode cX6_joined 120 = .ok (.iload_n 1, 1) := by decide +kernel
theorem dX6_joined_121 : decode cX6_joined 121 = .ok (.iload_n 2, 1) := by decide +kernel
theorem dX6_joined_122 : decode cX6_joined 122 = .ok (.if_icmp .ge 7, 3) := by decide +kernel
theorem dX6_joined_125 : decode cX6_joined 125 = .ok (.iconst 1, 1) := by decide +kernel
theorem dX6_joined_126 : decode cX6_joined 126 = .ok (.goto 4, 3) := by decide +kernel
theorem dX6_joined_129 : decode cX6_joined 129 = .ok (.iconst 0, 1) := by decide +kernel
theorem dX6_joined_130 : decode cX6_joined 130 = .ok (.ireturn, 1) := by decide +kernel
theorem dX6_joined_131 : decode cX6_joined 131 = .ok (.iload_n 1, 1) := by decide +kernel
theorem dX6_joined_132 : decode cX6_joined 132 = .ok (.iload_n 2, 1) := by decide +kernel
theorem dX6_joined_133 : decode cX6_joined 133 = .ok (.if_icmp .ne 7, 3) := by decide +kernel
theorem dX6_joined_136 : decode cX6_joined 136 = .ok (.iconst 1, 1) := by decide +kernel
theorem dX6_joined_137 : decode cX6_joined 137 = .ok (.goto 4, 3) := by decide +kernel
theorem dX6_joined_140 : decode cX6_joined 140 = .ok (.iconst 0, 1) := by decide +kernel
theorem dX6_joined_141 : decode cX6_joined 141 = .ok (.ireturn, 1) := by decide +kernel
theorem dX6_joined_142 : decode cX6_joined 142 = .ok (.iload_n 1, 1) := by decide +kernel
theorem dX6_joined_143 : decode cX6_joined 143 = .ok (.iload_n 2, 1) := by decide +kernel
theorem dX6_joined_144 : decode cX6_joined 144 = .ok (.if_icmp .le 7, 3) := by decide +kernel
theorem dX6_joined_147 : decode cX6_joined 147 = .ok (.iconst 1, 1) := by decide +kernel
theorem dX6_joined_148 : decode cX6_joined 148 = .ok (.goto 4, 3) := by decide +kernel
theorem dX6_joined_151 : decode cX6_joined 151 = .ok (.iconst 0, 1) := by decide +kernel
theorem dX6_joined_152 : decode cX6_joined 152 = .ok (.ireturn, 1) := by decide +kernel
theorem dX6_joined_153 : decode cX6_joined 153 = .ok (.iload_n 1, 1) := by decide +kernel
theorem dX6_joined_154 : decode cX6_joined 154 = .ok (.iload_n 2, 1) := by decide +kernel
theorem dX6_joined_155 : decode cX6_joined 155 = .ok (.iadd, 1) := by decide +kernel
theorem dX6_joined_156 : decode cX6_joined 156 = .ok (.ireturn, 1) := by decide +kernel
theorem dX6_joined_157 : decode cX6_joined 157 = .ok (.iload_n 1, 1) := by decide +kernel
theorem dX6_joined_158 : decode cX6_joined 158 = .ok (.iload_n 2, 1) := by decide +kernel
theorem dX6_joined_159 : decode cX6_joined 159 = .ok (.isub, 1) := by decide +kernel
theorem dX6_joined_160 : decode cX6_joined 160 = .ok (.ireturn, 1) := by decide +kernel
theorem dX6_joined_161 : decode cX6_joined 161 = .ok (.iload_n 1, 1) := by decide +kernel
theorem dX6_joined_162 : decode cX6_joined 162 = .ok (.iload_n 2, 1) := by decide +kernel
theorem dX6_joined_163 : decode cX6_joined 163 = .ok (.imul, 1) := by decide +kernel
theorem dX6_joined_164 : decode cX6_joined 164 = .ok (.ireturn, 1) := by decide +kernel
theorem dX6_joined_165 : decode cX6_joined 165 = .ok (.iload_n 2, 1) := by decide +kernel
theorem dX6_joined_166 : decode cX6_joined 166 = .ok (.ifCond .ne 7, 3) := by decide +kernel
theorem dX6_joined_169 : decode cX6_joined 169 = .ok (.iconst 0, 1) := by decide +kernel
theorem dX6_joined_170 : decode cX6_joined 170 = .ok (.goto 6, 3) := by decide +kernel
theorem dX6_joined_173 : decode cX6_joined 173 = .ok (.iload_n 1, 1) := by decide +kernel
theorem dX6_joined_174 : decode cX6_joined 174 = .ok (.iload_n 2, 1) := by decide +kernel
theorem dX6_joined_175 : decode cX6_joined 175 = .ok (.idiv, 1) := by decide +kernel
theorem dX6_joined_176 : decode cX6_joined 176 = .ok (.ireturn, 1) := by decide +kernel
theorem dX6_joined_177 : decode cX6_joined 177 = .ok (.iload_n 2, 1) := by decide +kernel
theorem dX6_joined_178 : decode cX6_joined 178 = .ok (.ifCond .ne 7, 3) := by decide +kernel
theorem dX6_joined_181 : decode cX6_joined 181 = .ok (.iconst 0, 1) := by decide +kernel
theorem dX6_joined_182 : decode cX6_joined 182 = .ok (.goto 6, 3) := by decide +kernel
theorem dX6_joined_185 : decode cX6_joined 185 = .ok (.iload_n 1, 1) := by decide +kernel
theorem dX6_joined_186 : decode cX6_joined 186 = .ok (.iload_n 2, 1) := by decide +kernel
theorem dX6_joined_187 : decode cX6_joined 187 = .ok (.irem, 1) := by decide +kernel
theorem dX6_joined_188 : decode cX6_joined 188 = .ok (.ireturn, 1) := by decide +kernel
theorem dX6_joined_189 : decode cX6_joined 189 = .ok (.iconst 0, 1) := by decide +kernel
theorem dX6_joined_190 : decode cX6_joined 190 = .ok (.ireturn, 1) := by decide +kernel
theorem dX7_init_0 : decode cX7_init 0 = .ok (.aload_n 0, 1) := by decide +kernel
theorem dX7_init_1 : decode cX7_init 1 = .ok (.invokespecial 3, 3) := by decide +kernel
theorem dX7_init_4 : decode cX7_init 4 = .ok (.aload_n 0, 1) := by decide +kernel
theorem dX7_init_5 : decode cX7_init 5 = .ok (.bipush 6, 2) := by decide +kernel
theorem dX7_init_7 : decode cX7_init 7 = .ok (.newarray .int, 2) := by decide +kernel
theorem dX7_init_9 : decode cX7_init 9 = .ok (.putfield 9, 3) := by decide +kernel
theorem dX7_init_12 : decode cX7_init 12 = .ok (.aload_n 0, 1) := by decide +kernel
theorem dX7_init_13 : decode cX7_init 13 = .ok (.bipush 28, 2) := by decide +kernel
theorem dX7_init_15 : decode cX7_init 15 = .ok (.newarray .int, 2) := by decide +kernel
theorem dX7_init_17 : decode cX7_init 17 = .ok (.putfield 15, 3) := by decide +kernel
theorem dX7_init_20 : decode cX7_init 20 = .ok (.aload_n 0, 1) := by decide +kernel
theorem dX7_init_21 : decode cX7_init 21 = .ok (.bipush 28, 2) := by decide +kernel
theorem dX7_init_23 : decode cX7_init 23 = .ok (.newarray .int, 2) := by decide +kernel
theorem dX7_init_25 : decode cX7_init 25 = .ok (.putfield 18, 3) := by decide +kernel
theorem dX7_init_28 : decode cX7_init 28 = .ok (.return_, 1) := by decide +kernel
theorem dX7_fewestKeepers_0 : decode cX7_fewestKeepers 0 = .ok (.iconst 0, 1) := by decide +kernel
theorem dX7_fewestKeepers_1 : decode cX7_fewestKeepers 1 = .ok (.istore_n 2, 1) := by decide +kernel
theorem dX7_fewestKeepers_2 : decode cX7_fewestKeepers 2 = .ok (.iload_n 2, 1) := by decide +kernel
theorem dX7_fewestKeepers_3 : decode cX7_fewestKeepers 3 = .ok (.aload_n 1, 1) := by decide +kernel
theorem dX7_fewestKeepers_4 : decode cX7_fewestKeepers 4 = .ok (.getfield 21, 3) := by decide +kernel
theorem dX7_fewestKeepers_7 : decode cX7_fewestKeepers 7 = .ok (.if_icmp .ge 20, 3) := by decide +kernel
theorem dX7_fewestKeepers_10 : decode cX7_fewestKeepers 10 = .ok (.aload_n 0, 1) := by decide +kernel
theorem dX7_fewestKeepers_11 : decode cX7_fewestKeepers 11 = .ok (.getfield 9, 3) := by decide +kernel
theorem dX7_fewestKeepers_14 : decode cX7_fewestKeepers 14 = .ok (.iload_n 2, 1) := by decide +kernel
theorem dX7_fewestKeepers_15 : decode cX7_fewestKeepers 15 = .ok (.aload_n 1, 1) := by decide +kernel
theorem dX7_fewestKeepers_16 : decode cX7_fewestKeepers 16 = .ok (.iload_n 2, 1) := by decide +kernel
theorem dX7_fewestKeepers_17 : decode cX7_fewestKeepers 17 = .ok (.invokevirtual 27, 3) := by decide +kernel
theorem dX7_fewestKeepers_20 : decode cX7_fewestKeepers 20 = .ok (.iastore, 1) := by decide +kernel
theorem dX7_fewestKeepers_21 : decode cX7_fewestKeepers 21 = .ok (.iinc 2 1, 3) := by decide +kernel
theorem dX7_fewestKeepers_24 : decode cX7_fewestKeepers 24 = .ok (.goto (-22), 3) := by decide +kernel
theorem dX7_fewestKeepers_27 : decode cX7_fewestKeepers 27 = .ok (.iconst 0, 1) := by decide +kernel
theorem dX7_fewestKeepers_28 : decode cX7_fewestKeepers 28 = .ok (.istore_n 2, 1) := by decide +kernel
theorem dX7_fewestKeepers_29 : decode cX7_fewestKeepers 29 = .ok (.iconst 1, 1) := by decide +kernel
theorem dX7_fewestKeepers_30 : decode cX7_fewestKeepers 30 = .ok (.istore_n 3, 1) := by decide +kernel
theorem dX7_fewestKeepers_31 : decode cX7_fewestKeepers 31 = .ok (.iload_n 3, 1) := by decide +kernel
theorem dX7_fewestKeepers_32 : decode cX7_fewestKeepers 32 = .ok (.iconst 1, 1) := by decide +kernel
theorem dX7_fewestKeepers_33 : decode cX7_fewestKeepers 33 = .ok (.aload_n 1, 1) := by decide +kernel
theorem dX7_fewestKeepers_34 : decode cX7_fewestKeepers 34 = .ok (.getfield 21, 3) := by decide +kernel
theorem dX7_fewestKeepers_37 : decode cX7_fewestKeepers 37 = .ok (.ishl, 1) := by decide +kernel
theorem dX7_fewestKeepers_38 : decode cX7_fewestKeepers 38 = .ok (.if_icmp .ge 48, 3) := by decide +kernel
theorem dX7_fewestKeepers_41 : decode cX7_fewestKeepers 41 = .ok (.iload_n 2, 1) := by decide +kernel
theorem dX7_fewestKeepers_42 : decode cX7_fewestKeepers 42 = .ok (.ifCond .eq 14, 3) := by decide +kernel
theorem dX7_fewestKeepers_45 : decode cX7_fewestKeepers 45 = .ok (.iload_n 3, 1) := by decide +kernel
theorem dX7_fewestKeepers_46 : decode cX7_fewestKeepers 46 = .ok (.invokestatic 30, 3) := by decide +kernel
theorem dX7_fewestKeepers_49 : decode cX7_fewestKeepers 49 = .ok (.iload_n 2, 1) := by decide +kernel
theorem dX7_fewestKeepers_50 : decode cX7_fewestKeepers 50 = .ok (.invokestatic 30, 3) := by decide +kernel
theorem dX7_fewestKeepers_53 : decode cX7_fewestKeepers 53 = .ok (.if_icmp .ge 7, 3) := by decide +kernel
theorem dX7_fewestKeepers_56 : decode cX7_fewestKeepers 56 = .ok (.iconst 1, 1) := by decide +kernel
theorem dX7_fewestKeepers_57 : decode cX7_fewestKeepers 57 = .ok (.goto 4, 3) := by decide +kernel
theorem dX7_fewestKeepers_60 : decode cX7_fewestKeepers 60 = .ok (.iconst 0, 1) := by decide +kernel
theorem dX7_fewestKeepers_61 : decode cX7_fewestKeepers 61 = .ok (.istore 4, 2) := by decide +kernel
theorem dX7_fewestKeepers_63 : decode cX7_fewestKeepers 63 = .ok (.iload 4, 2) := by decide +kernel
theorem dX7_fewestKeepers_65 : decode cX7_fewestKeepers 65 = .ok (.ifCond .eq 15, 3) := by decide +kernel
theorem dX7_fewestKeepers_68 : decode cX7_fewestKeepers 68 = .ok (.aload_n 0, 1) := by decide +kernel
theorem dX7_fewestKeepers_69 : decode cX7_fewestKeepers 69 = .ok (.iload_n 3, 1) := by decide +kernel
theorem dX7_fewestKeepers_70 : decode cX7_fewestKeepers 70 = .ok (.invokevirtual 35, 3) := by decide +kernel
theorem dX7_fewestKeepers_73 : decode cX7_fewestKeepers 73 = .ok (.ldc 38, 2) := by decide +kernel
theorem dX7_fewestKeepers_75 : decode cX7_fewestKeepers 75 = .ok (.if_icmp .ne 5, 3) := by decide +kernel
theorem dX7_fewestKeepers_78 : decode cX7_fewestKeepers 78 = .ok (.iload_n 3, 1) := by decide +kernel
theorem dX7_fewestKeepers_79 : decode cX7_fewestKeepers 79 = .ok (.istore_n 2, 1) := by decide +kernel
theorem dX7_fewestKeepers_80 : decode cX7_fewestKeepers 80 = .ok (.iinc 3 1, 3) := by decide +kernel
theorem dX7_fewestKeepers_83 : decode cX7_fewestKeepers 83 = .ok (.goto (-52), 3) := by decide +kernel
theorem dX7_fewestKeepers_86 : decode cX7_fewestKeepers 86 = .ok (.iload_n 2, 1) := by decide +kernel
theorem dX7_fewestKeepers_87 : decode cX7_fewestKeepers 87 = .ok (.ireturn, 1) := by decide +kernel
theorem dX7_daysKeptBy_0 : decode cX7_daysKeptBy 0 = .ok (.iconst 0, 1) := by decide +kernel
theorem dX7_daysKeptBy_1 : decode cX7_daysKeptBy 1 = .ok (.istore_n 2, 1) := by decide +kernel
theorem dX7_daysKeptBy_2 : decode cX7_daysKeptBy 2 = .ok (.iconst 0, 1) := by decide +kernel
theorem dX7_daysKeptBy_3 : decode cX7_daysKeptBy 3 = .ok (.istore_n 3, 1) := by decide +kernel
theorem dX7_daysKeptBy_4 : decode cX7_daysKeptBy 4 = .ok (.iload_n 3, 1) := by decide +kernel
theorem dX7_daysKeptBy_5 : decode cX7_daysKeptBy 5 = .ok (.bipush 6, 2) := by decide +kernel
theorem dX7_daysKeptBy_7 : decode cX7_daysKeptBy 7 = .ok (.if_icmp .ge 27, 3) := by decide +kernel
theorem dX7_daysKeptBy_10 : decode cX7_daysKeptBy 10 = .ok (.iload_n 1, 1) := by decide +kernel
theorem dX7_daysKeptBy_11 : decode cX7_daysKeptBy 11 = .ok (.iload_n 3, 1) := by decide +kernel
theorem dX7_daysKeptBy_12 : decode cX7_daysKeptBy 12 = .ok (.ishr, 1) := by decide +kernel
theorem dX7_daysKeptBy_13 : decode cX7_daysKeptBy 13 = .ok (.iconst 1, 1) := by decide +kernel
theorem dX7_daysKeptBy_14 : decode cX7_daysKeptBy 14 = .ok (.iand, 1) := by decide +kernel
theorem dX7_daysKeptBy_15 : decode cX7_daysKeptBy 15 = .ok (.iconst 1, 1) := by decide +kernel
theorem dX7_daysKeptBy_16 : decode cX7_daysKeptBy 16 = .ok (.if_icmp .ne 12, 3) := by decide +kernel
theorem dX7_daysKeptBy_19 : decode cX7_daysKeptBy 19 = .ok (.iload_n 2, 1) := by decide +kernel
theorem dX7_daysKeptBy_20 : decode cX7_daysKeptBy 20 = .ok (.aload_n 0, 1) := by decide +kernel
theorem dX7_daysKeptBy_21 : decode cX7_daysKeptBy 21 = .ok (.getfield 9, 3) := by decide +kernel
theorem dX7_daysKeptBy_24 : decode cX7_daysKeptBy 24 = .ok (.iload_n 3, 1) := by decide +kernel
theorem dX7_daysKeptBy_25 : decode cX7_daysKeptBy 25 = .ok (.iaload, 1) := by decide +kernel
theorem dX7_daysKeptBy_26 : decode cX7_daysKeptBy 26 = .ok (.ior, 1) := by decide +kernel
theorem dX7_daysKeptBy_27 : decode cX7_daysKeptBy 27 = .ok (.istore_n 2, 1) := by decide +kernel
theorem dX7_daysKeptBy_28 : decode cX7_daysKeptBy 28 = .ok (.iinc 3 1, 3) := by decide +kernel
theorem dX7_daysKeptBy_31 : decode cX7_daysKeptBy 31 = .ok (.goto (-27), 3) := by decide +kernel
theorem dX7_daysKeptBy_34 : decode cX7_daysKeptBy 34 = .ok (.iload_n 2, 1) := by decide +kernel
theorem dX7_daysKeptBy_35 : decode cX7_daysKeptBy 35 = .ok (.ireturn, 1) := by decide +kernel
theorem dX7_howManyBought_0 : decode cX7_howManyBought 0 = .ok (.iconst 0, 1) := by decide +kernel
theorem dX7_howManyBought_1 : decode cX7_howManyBought 1 = .ok (.istore 4, 2) := by decide +kernel
theorem dX7_howManyBought_3 : decode cX7_howManyBought 3 = .ok (.iconst 0, 1) := by decide +kernel
theorem dX7_howManyBought_4 : decode cX7_howManyBought 4 = .ok (.istore 5, 2) := by decide +kernel
theorem dX7_howManyBought_6 : decode cX7_howManyBought 6 = .ok (.iload 5, 2) := by decide +kernel
theorem dX7_howManyBought_8 : decode cX7_howManyBought 8 = .ok (.bipush 28, 2) := by decide +kernel
theorem dX7_howManyBought_10 : decode cX7_howManyBought 10 = .ok (.if_icmp .ge 68, 3) := by decide +kernel
theorem dX7_howManyBought_13 : decode cX7_howManyBought 13 = .ok (.aload_n 0, 1) := by decide +kernel
theorem dX7_howManyBought_14 : decode cX7_howManyBought 14 = .ok (.getfield 15, 3) := by decide +kernel
theorem dX7_howManyBought_17 : decode cX7_howManyBought 17 = .ok (.iload 5, 2) := by decide +kernel
theorem dX7_howManyBought_19 : decode cX7_howManyBought 19 = .ok (.aload_n 1, 1) := by decide +kernel
theorem dX7_howManyBought_20 : decode cX7_howManyBought 20 = .ok (.iload_n 2, 1) := by decide +kernel
theorem dX7_howManyBought_21 : decode cX7_howManyBought 21 = .ok (.iload 5, 2) := by decide +kernel
theorem dX7_howManyBought_23 : decode cX7_howManyBought 23 = .ok (.invokevirtual 39, 3) := by decide +kernel
theorem dX7_howManyBought_26 : decode cX7_howManyBought 26 = .ok (.iastore, 1) := by decide +kernel
theorem dX7_howManyBought_27 : decode cX7_howManyBought 27 = .ok (.aload_n 0, 1) := by decide +kernel
theorem dX7_howManyBought_28 : decode cX7_howManyBought 28 = .ok (.getfield 18, 3) := by decide +kernel
theorem dX7_howManyBought_31 : decode cX7_howManyBought 31 = .ok (.iload 5, 2) := by decide +kernel
theorem dX7_howManyBought_33 : decode cX7_howManyBought 33 = .ok (.iconst 0, 1) := by decide +kernel
theorem dX7_howManyBought_34 : decode cX7_howManyBought 34 = .ok (.iastore, 1) := by decide +kernel
theorem dX7_howManyBought_35 : decode cX7_howManyBought 35 = .ok (.aload_n 1, 1) := by decide +kernel
theorem dX7_howManyBought_36 : decode cX7_howManyBought 36 = .ok (.getfield 45, 3) := by decide +kernel
theorem dX7_howManyBought_39 : decode cX7_howManyBought 39 = .ok (.iload_n 2, 1) := by decide +kernel
theorem dX7_howManyBought_40 : decode cX7_howManyBought 40 = .ok (.iload 5, 2) := by decide +kernel
theorem dX7_howManyBought_42 : decode cX7_howManyBought 42 = .ok (.invokevirtual 49, 3) := by decide +kernel
theorem dX7_howManyBought_45 : decode cX7_howManyBought 45 = .ok (.ifCond .le 27, 3) := by decide +kernel
theorem dX7_howManyBought_48 : decode cX7_howManyBought 48 = .ok (.aload_n 1, 1) := by decide +kernel
theorem dX7_howManyBought_49 : decode cX7_howManyBought 49 = .ok (.getfield 45, 3) := by decide +kernel
theorem dX7_howManyBought_52 : decode cX7_howManyBought 52 = .ok (.iload_n 3, 1) := by decide +kernel
theorem dX7_howManyBought_53 : decode cX7_howManyBought 53 = .ok (.iload 5, 2) := by decide +kernel
theorem dX7_howManyBought_55 : decode cX7_howManyBought 55 = .ok (.invokevirtual 49, 3) := by decide +kernel
theorem dX7_howManyBought_58 : decode cX7_howManyBought 58 = .ok (.bipush 9, 2) := by decide +kernel
theorem dX7_howManyBought_60 : decode cX7_howManyBought 60 = .ok (.if_icmp .ge 12, 3) := by decide +kernel
theorem dX7_howManyBought_63 : decode cX7_howManyBought 63 = .ok (.iload 4, 2) := by decide +kernel
theorem dX7_howManyBought_65 : decode cX7_howManyBought 65 = .ok (.iconst 1, 1) := by decide +kernel
theorem dX7_howManyBought_66 : decode cX7_howManyBought 66 = .ok (.iload 5, 2) := by decide +kernel
theorem dX7_howManyBought_68 : decode cX7_howManyBought 68 = .ok (.ishl, 1) := by decide +kernel
theorem dX7_howManyBought_69 : decode cX7_howManyBought 69 = .ok (.ior, 1) := by decide +kernel
theorem dX7_howManyBought_70 : decode cX7_howManyBought 70 = .ok (.istore 4, 2) := by decide +kernel
theorem dX7_howManyBought_72 : decode cX7_howManyBought 72 = .ok (.iinc 5 1, 3) := by decide +kernel
theorem dX7_howManyBought_75 : decode cX7_howManyBought 75 = .ok (.goto (-69), 3) := by decide +kernel
theorem dX7_howManyBought_78 : decode cX7_howManyBought 78 = .ok (.aload_n 1, 1) := by decide +kernel
theorem dX7_howManyBought_79 : decode cX7_howManyBought 79 = .ok (.getfield 45, 3) := by decide +kernel
theorem dX7_howManyBought_82 : decode cX7_howManyBought 82 = .ok (.getfield 52, 3) := by decide +kernel
theorem dX7_howManyBought_85 : decode cX7_howManyBought 85 = .ok (.iload_n 3, 1) := by decide +kernel
theorem dX7_howManyBought_86 : decode cX7_howManyBought 86 = .ok (.iaload, 1) := by decide +kernel
theorem dX7_howManyBought_87 : decode cX7_howManyBought 87 = .ok (.istore 5, 2) := by decide +kernel
theorem dX7_howManyBought_89 : decode cX7_howManyBought 89 = .ok (.iconst 0, 1) := by decide +kernel
theorem dX7_howManyBought_90 : decode cX7_howManyBought 90 = .ok (.istore 6, 2) := by decide +kernel
theorem dX7_howManyBought_92 : decode cX7_howManyBought 92 = .ok (.iconst 0, 1) := by decide +kernel
theorem dX7_howManyBought_93 : decode cX7_howManyBought 93 = .ok (.istore 7, 2) := by decide +kernel
theorem dX7_howManyBought_95 : decode cX7_howManyBought 95 = .ok (.iload 7, 2) := by decide +kernel
theorem dX7_howManyBought_97 : decode cX7_howManyBought 97 = .ok (.bipush 28, 2) := by decide +kernel
theorem dX7_howManyBought_99 : decode cX7_howManyBought 99 = .ok (.if_icmp .ge 64, 3) := by decide +kernel
theorem dX7_howManyBought_102 : decode cX7_howManyBought 102 = .ok (.aload_n 0, 1) := by decide +kernel
theorem dX7_howManyBought_103 : decode cX7_howManyBought 103 = .ok (.iload 4, 2) := by decide +kernel
theorem dX7_howManyBought_105 : decode cX7_howManyBought 105 = .ok (.invokevirtual 55, 3) := by decide +kernel
theorem dX7_howManyBought_108 : decode cX7_howManyBought 108 = .ok (.istore 8, 2) := by decide +kernel
theorem dX7_howManyBought_110 : decode cX7_howManyBought 110 = .ok (.iload 8, 2) := by decide +kernel
theorem dX7_howManyBought_112 : decode cX7_howManyBought 112 = .ok (.iconst (-1), 1) := by decide +kernel
theorem dX7_howManyBought_113 : decode cX7_howManyBought 113 = .ok (.if_icmp .eq 15, 3) := by decide +kernel
theorem dX7_howManyBought_116 : decode cX7_howManyBought 116 = .ok (.aload_n 0, 1) := by decide +kernel
theorem dX7_howManyBought_117 : decode cX7_howManyBought 117 = .ok (.getfield 15, 3) := by decide +kernel
theorem dX7_howManyBought_120 : decode cX7_howManyBought 120 = .ok (.iload 8, 2) := by decide +kernel
theorem dX7_howManyBought_122 : decode cX7_howManyBought 122 = .ok (.iaload, 1) := by decide +kernel
theorem dX7_howManyBought_123 : decode cX7_howManyBought 123 = .ok (.iload 5, 2) := by decide +kernel
theorem dX7_howManyBought_125 : decode cX7_howManyBought 125 = .ok (.if_icmp .le 6, 3) := by decide +kernel
theorem dX7_howManyBought_128 : decode cX7_howManyBought 128 = .ok (.iload 6, 2) := by decide +kernel
theorem dX7_howManyBought_130 : decode cX7_howManyBought 130 = .ok (.ireturn, 1) := by decide +kernel
theorem dX7_howManyBought_131 : decode cX7_howManyBought 131 = .ok (.iload 4, 2) := by decide +kernel
theorem dX7_howManyBought_133 : decode cX7_howManyBought 133 = .ok (.iconst 1, 1) := by decide +kernel
theorem dX7_howManyBought_134 : decode cX7_howManyBought 134 = .ok (.iload 8, 2) := by decide +kernel
theorem dX7_howManyBought_136 : decode cX7_howManyBought 136 = .ok (.ishl, 1) := by decide +kernel
theorem dX7_howManyBought_137 : decode cX7_howManyBought 137 = .ok (.iconst (-1), 1) := by decide +kernel
theorem dX7_howManyBought_138 : decode cX7_howManyBought 138 = .ok (.ixor, 1) := by decide +kernel
theorem dX7_howManyBought_139 : decode cX7_howManyBought 139 = .ok (.iand, 1) := by decide +kernel
theorem dX7_howManyBought_140 : decode cX7_howManyBought 140 = .ok (.istore 4, 2) := by decide +kernel
theorem dX7_howManyBought_142 : decode cX7_howManyBought 142 = .ok (.iload 5, 2) := by decide +kernel
theorem dX7_howManyBought_144 : decode cX7_howManyBought 144 = .ok (.aload_n 0, 1) := by decide +kernel
theorem dX7_howManyBought_145 : decode cX7_howManyBought 145 = .ok (.getfield 15, 3) := by decide +kernel
theorem dX7_howManyBought_148 : decode cX7_howManyBought 148 = .ok (.iload 8, 2) := by decide +kernel
theorem dX7_howManyBought_150 : decode cX7_howManyBought 150 = .ok (.iaload, 1) := by decide +kernel
theorem dX7_howManyBought_151 : decode cX7_howManyBought 151 = .ok (.isub, 1) := by decide +kernel
theorem dX7_howManyBought_152 : decode cX7_howManyBought 152 = .ok (.istore 5, 2) := by decide +kernel
theorem dX7_howManyBought_154 : decode cX7_howManyBought 154 = .ok (.iinc 6 1, 3) := by decide +kernel
theorem dX7_howManyBought_157 : decode cX7_howManyBought 157 = .ok (.iinc 7 1, 3) := by decide +kernel
theorem dX7_howManyBought_160 : decode cX7_howManyBought 160 = .ok (.goto (-65), 3) := by decide +kernel
theorem dX7_howManyBought_163 : decode cX7_howManyBought 163 = .ok (.iload 6, 2) := by decide +kernel
theorem dX7_howManyBought_165 : decode cX7_howManyBought 165 = .ok (.ireturn, 1) := by decide +kernel
theorem dX7_takenByBailiffs_0 : decode cX7_takenByBailiffs 0 = .ok (.iconst 0, 1) := by decide +kernel
theorem dX7_takenByBailiffs_1 : decode cX7_takenByBailiffs 1 = .ok (.istore 4, 2) := by decide +kernel
theorem dX7_takenByBailiffs_3 : decode cX7_takenByBailiffs 3 = .ok (.iconst 0, 1) := by decide +kernel
theorem dX7_takenByBailiffs_4 : decode cX7_takenByBailiffs 4 = .ok (.istore 5, 2) := by decide +kernel
theorem dX7_takenByBailiffs_6 : decode cX7_takenByBailiffs 6 = .ok (.iload 5, 2) := by decide +kernel
theorem dX7_takenByBailiffs_8 : decode cX7_takenByBailiffs 8 = .ok (.bipush 28, 2) := by decide +kernel
theorem dX7_takenByBailiffs_10 : decode cX7_takenByBailiffs 10 = .ok (.if_icmp .ge 59, 3) := by decide +kernel
theorem dX7_takenByBailiffs_13 : decode cX7_takenByBailiffs 13 = .ok (.aload_n 0, 1) := by decide +kernel
theorem dX7_takenByBailiffs_14 : decode cX7_takenByBailiffs 14 = .ok (.getfield 15, 3) := by decide +kernel
theorem dX7_takenByBailiffs_17 : decode cX7_takenByBailiffs 17 = .ok (.iload 5, 2) := by decide +kernel
theorem dX7_takenByBailiffs_19 : decode cX7_takenByBailiffs 19 = .ok (.aload_n 1, 1) := by decide +kernel
theorem dX7_takenByBailiffs_20 : decode cX7_takenByBailiffs 20 = .ok (.iload_n 2, 1) := by decide +kernel
theorem dX7_takenByBailiffs_21 : decode cX7_takenByBailiffs 21 = .ok (.iload 5, 2) := by decide +kernel
theorem dX7_takenByBailiffs_23 : decode cX7_takenByBailiffs 23 = .ok (.invokevirtual 39, 3) := by decide +kernel
theorem dX7_takenByBailiffs_26 : decode cX7_takenByBailiffs 26 = .ok (.iastore, 1) := by decide +kernel
theorem dX7_takenByBailiffs_27 : decode cX7_takenByBailiffs 27 = .ok (.aload_n 0, 1) := by decide +kernel
theorem dX7_takenByBailiffs_28 : decode cX7_takenByBailiffs 28 = .ok (.getfield 18, 3) := by decide +kernel
theorem dX7_takenByBailiffs_31 : decode cX7_takenByBailiffs 31 = .ok (.iload 5, 2) := by decide +kernel
theorem dX7_takenByBailiffs_33 : decode cX7_takenByBailiffs 33 = .ok (.aload_n 1, 1) := by decide +kernel
theorem dX7_takenByBailiffs_34 : decode cX7_takenByBailiffs 34 = .ok (.iload_n 2, 1) := by decide +kernel
theorem dX7_takenByBailiffs_35 : decode cX7_takenByBailiffs 35 = .ok (.iload 5, 2) := by decide +kernel
theorem dX7_takenByBailiffs_37 : decode cX7_takenByBailiffs 37 = .ok (.invokestatic 58, 3) := by decide +kernel
theorem dX7_takenByBailiffs_40 : decode cX7_takenByBailiffs 40 = .ok (.iastore, 1) := by decide +kernel
theorem dX7_takenByBailiffs_41 : decode cX7_takenByBailiffs 41 = .ok (.aload_n 1, 1) := by decide +kernel
theorem dX7_takenByBailiffs_42 : decode cX7_takenByBailiffs 42 = .ok (.getfield 45, 3) := by decide +kernel
theorem dX7_takenByBailiffs_45 : decode cX7_takenByBailiffs 45 = .ok (.iload_n 2, 1) := by decide +kernel
theorem dX7_takenByBailiffs_46 : decode cX7_takenByBailiffs 46 = .ok (.iload 5, 2) := by decide +kernel
theorem dX7_takenByBailiffs_48 : decode cX7_takenByBailiffs 48 = .ok (.invokevirtual 49, 3) := by decide +kernel
theorem dX7_takenByBailiffs_51 : decode cX7_takenByBailiffs 51 = .ok (.ifCond .le 12, 3) := by decide +kernel
theorem dX7_takenByBailiffs_54 : decode cX7_takenByBailiffs 54 = .ok (.iload 4, 2) := by decide +kernel
theorem dX7_takenByBailiffs_56 : decode cX7_takenByBailiffs 56 = .ok (.iconst 1, 1) := by decide +kernel
theorem dX7_takenByBailiffs_57 : decode cX7_takenByBailiffs 57 = .ok (.iload 5, 2) := by decide +kernel
theorem dX7_takenByBailiffs_59 : decode cX7_takenByBailiffs 59 = .ok (.ishl, 1) := by decide +kernel
theorem dX7_takenByBailiffs_60 : decode cX7_takenByBailiffs 60 = .ok (.ior, 1) := by decide +kernel
theorem dX7_takenByBailiffs_61 : decode cX7_takenByBailiffs 61 = .ok (.istore 4, 2) := by decide +kernel
theorem dX7_takenByBailiffs_63 : decode cX7_takenByBailiffs 63 = .ok (.iinc 5 1, 3) := by decide +kernel
theorem dX7_takenByBailiffs_66 : decode cX7_takenByBailiffs 66 = .ok (.goto (-60), 3) := by decide +kernel
theorem dX7_takenByBailiffs_69 : decode cX7_takenByBailiffs 69 = .ok (.iconst 0, 1) := by decide +kernel
theorem dX7_takenByBailiffs_70 : decode cX7_takenByBailiffs 70 = .ok (.istore 5, 2) := by decide +kernel
theorem dX7_takenByBailiffs_72 : decode cX7_takenByBailiffs 72 = .ok (.iconst 0, 1) := by decide +kernel
theorem dX7_takenByBailiffs_73 : decode cX7_takenByBailiffs 73 = .ok (.istore 6, 2) := by decide +kernel
theorem dX7_takenByBailiffs_75 : decode cX7_takenByBailiffs 75 = .ok (.iload 6, 2) := by decide +kernel
theorem dX7_takenByBailiffs_77 : decode cX7_takenByBailiffs 77 = .ok (.iload_n 3, 1) := by decide +kernel
theorem dX7_takenByBailiffs_78 : decode cX7_takenByBailiffs 78 = .ok (.if_icmp .ge 37, 3) := by decide +kernel
theorem dX7_takenByBailiffs_81 : decode cX7_takenByBailiffs 81 = .ok (.aload_n 0, 1) := by decide +kernel
theorem dX7_takenByBailiffs_82 : decode cX7_takenByBailiffs 82 = .ok (.iload 4, 2) := by decide +kernel
theorem dX7_takenByBailiffs_84 : decode cX7_takenByBailiffs 84 = .ok (.iload 5, 2) := by decide +kernel
theorem dX7_takenByBailiffs_86 : decode cX7_takenByBailiffs 86 = .ok (.iconst (-1), 1) := by decide +kernel
theorem dX7_takenByBailiffs_87 : decode cX7_takenByBailiffs 87 = .ok (.ixor, 1) := by decide +kernel
theorem dX7_takenByBailiffs_88 : decode cX7_takenByBailiffs 88 = .ok (.iand, 1) := by decide +kernel
theorem dX7_takenByBailiffs_89 : decode cX7_takenByBailiffs 89 = .ok (.invokevirtual 55, 3) := by decide +kernel
theorem dX7_takenByBailiffs_92 : decode cX7_takenByBailiffs 92 = .ok (.istore 7, 2) := by decide +kernel
theorem dX7_takenByBailiffs_94 : decode cX7_takenByBailiffs 94 = .ok (.iload 7, 2) := by decide +kernel
theorem dX7_takenByBailiffs_96 : decode cX7_takenByBailiffs 96 = .ok (.iconst (-1), 1) := by decide +kernel
theorem dX7_takenByBailiffs_97 : decode cX7_takenByBailiffs 97 = .ok (.if_icmp .eq 12, 3) := by decide +kernel
theorem dX7_takenByBailiffs_100 : decode cX7_takenByBailiffs 100 = .ok (.iload 5, 2) := by decide +kernel
theorem dX7_takenByBailiffs_102 : decode cX7_takenByBailiffs 102 = .ok (.iconst 1, 1) := by decide +kernel
theorem dX7_takenByBailiffs_103 : decode cX7_takenByBailiffs 103 = .ok (.iload 7, 2) := by decide +kernel
theorem dX7_takenByBailiffs_105 : decode cX7_takenByBailiffs 105 = .ok (.ishl, 1) := by decide +kernel
theorem dX7_takenByBailiffs_106 : decode cX7_takenByBailiffs 106 = .ok (.ior, 1) := by decide +kernel
theorem dX7_takenByBailiffs_107 : decode cX7_takenByBailiffs 107 = .ok (.istore 5, 2) := by decide +kernel
theorem dX7_takenByBailiffs_109 : decode cX7_takenByBailiffs 109 = .ok (.iinc 6 1, 3) := by decide +kernel
theorem dX7_takenByBailiffs_112 : decode cX7_takenByBailiffs 112 = .ok (.goto (-37), 3) := by decide +kernel
theorem dX7_takenByBailiffs_115 : decode cX7_takenByBailiffs 115 = .ok (.iload 5, 2) := by decide +kernel
theorem dX7_takenByBailiffs_117 : decode cX7_takenByBailiffs 117 = .ok (.ireturn, 1) := by decide +kernel
theorem dX7_harmOf_0 : decode cX7_harmOf 0 = .ok (.aload_n 0, 1) := by decide +kernel
theorem dX7_harmOf_1 : decode cX7_harmOf 1 = .ok (.getfield 45, 3) := by decide +kernel
theorem dX7_harmOf_4 : decode cX7_harmOf 4 = .ok (.iload_n 1, 1) := by decide +kernel
theorem dX7_harmOf_5 : decode cX7_harmOf 5 = .ok (.iload_n 2, 1) := by decide +kernel
theorem dX7_harmOf_6 : decode cX7_harmOf 6 = .ok (.invokevirtual 49, 3) := by decide +kernel
theorem dX7_harmOf_9 : decode cX7_harmOf 9 = .ok (.istore_n 3, 1) := by decide +kernel
theorem dX7_harmOf_10 : decode cX7_harmOf 10 = .ok (.aload_n 0, 1) := by decide +kernel
theorem dX7_harmOf_11 : decode cX7_harmOf 11 = .ok (.getfield 45, 3) := by decide +kernel
theorem dX7_harmOf_14 : decode cX7_harmOf 14 = .ok (.iload_n 1, 1) := by decide +kernel
theorem dX7_harmOf_15 : decode cX7_harmOf 15 = .ok (.iload_n 2, 1) := by decide +kernel
theorem dX7_harmOf_16 : decode cX7_harmOf 16 = .ok (.iload_n 3, 1) := by decide +kernel
theorem dX7_harmOf_17 : decode cX7_harmOf 17 = .ok (.iconst 1, 1) := by decide +kernel
theorem dX7_harmOf_18 : decode cX7_harmOf 18 = .ok (.isub, 1) := by decide +kernel
theorem dX7_harmOf_19 : decode cX7_harmOf 19 = .ok (.invokevirtual 62, 3) := by decide +kernel
theorem dX7_harmOf_22 : decode cX7_harmOf 22 = .ok (.ifCond .eq 5, 3) := by decide +kernel
theorem dX7_harmOf_25 : decode cX7_harmOf 25 = .ok (.iconst 0, 1) := by decide +kernel
theorem dX7_harmOf_26 : decode cX7_harmOf 26 = .ok (.ireturn, 1) := by decide +kernel
theorem dX7_harmOf_27 : decode cX7_harmOf 27 = .ok (.aload_n 0, 1) := by decide +kernel
theorem dX7_harmOf_28 : decode cX7_harmOf 28 = .ok (.getfield 66, 3) := by decide +kernel
theorem dX7_harmOf_31 : decode cX7_harmOf 31 = .ok (.astore 4, 2) := by decide +kernel
theorem dX7_harmOf_33 : decode cX7_harmOf 33 = .ok (.iconst 0, 1) := by decide +kernel
theorem dX7_harmOf_34 : decode cX7_harmOf 34 = .ok (.istore 5, 2) := by decide +kernel
theorem dX7_harmOf_36 : decode cX7_harmOf 36 = .ok (.iconst 0, 1) := by decide +kernel
theorem dX7_harmOf_37 : decode cX7_harmOf 37 = .ok (.istore 6, 2) := by decide +kernel
theorem dX7_harmOf_39 : decode cX7_harmOf 39 = .ok (.iload 6, 2) := by decide +kernel
theorem dX7_harmOf_41 : decode cX7_harmOf 41 = .ok (.aload 4, 2) := by decide +kernel
theorem dX7_harmOf_43 : decode cX7_harmOf 43 = .ok (.getfield 70, 3) := by decide +kernel
theorem dX7_harmOf_46 : decode cX7_harmOf 46 = .ok (.if_icmp .ge 61, 3) := by decide +kernel
theorem dX7_harmOf_49 : decode cX7_harmOf 49 = .ok (.aload 4, 2) := by decide +kernel
theorem dX7_harmOf_51 : decode cX7_harmOf 51 = .ok (.getfield 73, 3) := by decide +kernel
theorem dX7_harmOf_54 : decode cX7_harmOf 54 = .ok (.iload 6, 2) := by decide +kernel
theorem dX7_harmOf_56 : decode cX7_harmOf 56 = .ok (.iaload, 1) := by decide +kernel
theorem dX7_harmOf_57 : decode cX7_harmOf 57 = .ok (.iload_n 2, 1) := by decide +kernel
theorem dX7_harmOf_58 : decode cX7_harmOf 58 = .ok (.if_icmp .ne 18, 3) := by decide +kernel
theorem dX7_harmOf_61 : decode cX7_harmOf 61 = .ok (.aload 4, 2) := by decide +kernel
theorem dX7_harmOf_63 : decode cX7_harmOf 63 = .ok (.iload 6, 2) := by decide +kernel
theorem dX7_harmOf_65 : decode cX7_harmOf 65 = .ok (.iload_n 1, 1) := by decide +kernel
theorem dX7_harmOf_66 : decode cX7_harmOf 66 = .ok (.invokevirtual 76, 3) := by decide +kernel
theorem dX7_harmOf_69 : decode cX7_harmOf 69 = .ok (.ifCond .eq 7, 3) := by decide +kernel
theorem dX7_harmOf_72 : decode cX7_harmOf 72 = .ok (.iconst 1, 1) := by decide +kernel
theorem dX7_harmOf_73 : decode cX7_harmOf 73 = .ok (.goto 4, 3) := by decide +kernel
theorem dX7_harmOf_76 : decode cX7_harmOf 76 = .ok (.iconst 0, 1) := by decide +kernel
theorem dX7_harmOf_77 : decode cX7_harmOf 77 = .ok (.istore 7, 2) := by decide +kernel
theorem dX7_harmOf_79 : decode cX7_harmOf 79 = .ok (.iload 7, 2) := by decide +kernel
theorem dX7_harmOf_81 : decode cX7_harmOf 81 = .ok (.ifCond .eq 20, 3) := by decide +kernel
theorem dX7_harmOf_84 : decode cX7_harmOf 84 = .ok (.aload 4, 2) := by decide +kernel
theorem dX7_harmOf_86 : decode cX7_harmOf 86 = .ok (.iload 6, 2) := by decide +kernel
theorem dX7_harmOf_88 : decode cX7_harmOf 88 = .ok (.aload_n 0, 1) := by decide +kernel
theorem dX7_harmOf_89 : decode cX7_harmOf 89 = .ok (.getfield 45, 3) := by decide +kernel
theorem dX7_harmOf_92 : decode cX7_harmOf 92 = .ok (.invokevirtual 80, 3) := by decide +kernel
theorem dX7_harmOf_95 : decode cX7_harmOf 95 = .ok (.ifCond .eq 6, 3) := by decide +kernel
theorem dX7_harmOf_98 : decode cX7_harmOf 98 = .ok (.iinc 5 1, 3) := by decide +kernel
theorem dX7_harmOf_101 : decode cX7_harmOf 101 = .ok (.iinc 6 1, 3) := by decide +kernel
theorem dX7_harmOf_104 : decode cX7_harmOf 104 = .ok (.goto (-65), 3) := by decide +kernel
theorem dX7_harmOf_107 : decode cX7_harmOf 107 = .ok (.iload 5, 2) := by decide +kernel
theorem dX7_harmOf_109 : decode cX7_harmOf 109 = .ok (.ireturn, 1) := by decide +kernel
theorem dX7_leastOf_0 : decode cX7_leastOf 0 = .ok (.iconst (-1), 1) := by decide +kernel
theorem dX7_leastOf_1 : decode cX7_leastOf 1 = .ok (.istore_n 2, 1) := by decide +kernel
theorem dX7_leastOf_2 : decode cX7_leastOf 2 = .ok (.iconst 0, 1) := by decide +kernel
theorem dX7_leastOf_3 : decode cX7_leastOf 3 = .ok (.istore_n 3, 1) := by decide +kernel
theorem dX7_leastOf_4 : decode cX7_leastOf 4 = .ok (.iload_n 3, 1) := by decide +kernel
theorem dX7_leastOf_5 : decode cX7_leastOf 5 = .ok (.bipush 28, 2) := by decide +kernel
theorem dX7_leastOf_7 : decode cX7_leastOf 7 = .ok (.if_icmp .ge 34, 3) := by decide +kernel
theorem dX7_leastOf_10 : decode cX7_leastOf 10 = .ok (.iload_n 1, 1) := by decide +kernel
theorem dX7_leastOf_11 : decode cX7_leastOf 11 = .ok (.iload_n 3, 1) := by decide +kernel
theorem dX7_leastOf_12 : decode cX7_leastOf 12 = .ok (.ishr, 1) := by decide +kernel
theorem dX7_leastOf_13 : decode cX7_leastOf 13 = .ok (.iconst 1, 1) := by decide +kernel
theorem dX7_leastOf_14 : decode cX7_leastOf 14 = .ok (.iand, 1) := by decide +kernel
theorem dX7_leastOf_15 : decode cX7_leastOf 15 = .ok (.iconst 1, 1) := by decide +kernel
theorem dX7_leastOf_16 : decode cX7_leastOf 16 = .ok (.if_icmp .ne 19, 3) := by decide +kernel
theorem dX7_leastOf_19 : decode cX7_leastOf 19 = .ok (.iload_n 2, 1) := by decide +kernel
theorem dX7_leastOf_20 : decode cX7_leastOf 20 = .ok (.iconst (-1), 1) := by decide +kernel
theorem dX7_leastOf_21 : decode cX7_leastOf 21 = .ok (.if_icmp .eq 12, 3) := by decide +kernel
theorem dX7_leastOf_24 : decode cX7_leastOf 24 = .ok (.aload_n 0, 1) := by decide +kernel
theorem dX7_leastOf_25 : decode cX7_leastOf 25 = .ok (.iload_n 3, 1) := by decide +kernel
theorem dX7_leastOf_26 : decode cX7_leastOf 26 = .ok (.iload_n 2, 1) := by decide +kernel
theorem dX7_leastOf_27 : decode cX7_leastOf 27 = .ok (.invokevirtual 84, 3) := by decide +kernel
theorem dX7_leastOf_30 : decode cX7_leastOf 30 = .ok (.ifCond .eq 5, 3) := by decide +kernel
theorem dX7_leastOf_33 : decode cX7_leastOf 33 = .ok (.iload_n 3, 1) := by decide +kernel
theorem dX7_leastOf_34 : decode cX7_leastOf 34 = .ok (.istore_n 2, 1) := by decide +kernel
theorem dX7_leastOf_35 : decode cX7_leastOf 35 = .ok (.iinc 3 1, 3) := by decide +kernel
theorem dX7_leastOf_38 : decode cX7_leastOf 38 = .ok (.goto (-34), 3) := by decide +kernel
theorem dX7_leastOf_41 : decode cX7_leastOf 41 = .ok (.iload_n 2, 1) := by decide +kernel
theorem dX7_leastOf_42 : decode cX7_leastOf 42 = .ok (.ireturn, 1) := by decide +kernel
theorem dX7_isLess_0 : decode cX7_isLess 0 = .ok (.aload_n 0, 1) := by decide +kernel
theorem dX7_isLess_1 : decode cX7_isLess 1 = .ok (.getfield 18, 3) := by decide +kernel
theorem dX7_isLess_4 : decode cX7_isLess 4 = .ok (.iload_n 1, 1) := by decide +kernel
theorem dX7_isLess_5 : decode cX7_isLess 5 = .ok (.iaload, 1) := by decide +kernel
theorem dX7_isLess_6 : decode cX7_isLess 6 = .ok (.aload_n 0, 1) := by decide +kernel
theorem dX7_isLess_7 : decode cX7_isLess 7 = .ok (.getfield 18, 3) := by decide +kernel
theorem dX7_isLess_10 : decode cX7_isLess 10 = .ok (.iload_n 2, 1) := by decide +kernel
theorem dX7_isLess_11 : decode cX7_isLess 11 = .ok (.iaload, 1) := by decide +kernel
theorem dX7_isLess_12 : decode cX7_isLess 12 = .ok (.if_icmp .eq 24, 3) := by decide +kernel
theorem dX7_isLess_15 : decode cX7_isLess 15 = .ok (.aload_n 0, 1) := by decide +kernel
theorem dX7_isLess_16 : decode cX7_isLess 16 = .ok (.getfield 18, 3) := by decide +kernel
theorem dX7_isLess_19 : decode cX7_isLess 19 = .ok (.iload_n 1, 1) := by decide +kernel
theorem dX7_isLess_20 : decode cX7_isLess 20 = .ok (.iaload, 1) := by decide +kernel
theorem dX7_isLess_21 : decode cX7_isLess 21 = .ok (.aload_n 0, 1) := by decide +kernel
theorem dX7_isLess_22 : decode cX7_isLess 22 = .ok (.getfield 18, 3) := by decide +kernel
theorem dX7_isLess_25 : decode cX7_isLess 25 = .ok (.iload_n 2, 1) := by decide +kernel
theorem dX7_isLess_26 : decode cX7_isLess 26 = .ok (.iaload, 1) := by decide +kernel
theorem dX7_isLess_27 : decode cX7_isLess 27 = .ok (.if_icmp .ge 7, 3) := by decide +kernel
theorem dX7_isLess_30 : decode cX7_isLess 30 = .ok (.iconst 1, 1) := by decide +kernel
theorem dX7_isLess_31 : decode cX7_isLess 31 = .ok (.goto 4, 3) := by decide +kernel
theorem dX7_isLess_34 : decode cX7_isLess 34 = .ok (.iconst 0, 1) := by decide +kernel
theorem dX7_isLess_35 : decode cX7_isLess 35 = .ok (.ireturn, 1) := by decide +kernel
theorem dX7_isLess_36 : decode cX7_isLess 36 = .ok (.aload_n 0, 1) := by decide +kernel
theorem dX7_isLess_37 : decode cX7_isLess 37 = .ok (.getfield 15, 3) := by decide +kernel
theorem dX7_isLess_40 : decode cX7_isLess 40 = .ok (.iload_n 1, 1) := by decide +kernel
theorem dX7_isLess_41 : decode cX7_isLess 41 = .ok (.iaload, 1) := by decide +kernel
theorem dX7_isLess_42 : decode cX7_isLess 42 = .ok (.aload_n 0, 1) := by decide +kernel
theorem dX7_isLess_43 : decode cX7_isLess 43 = .ok (.getfield 15, 3) := by decide +kernel
theorem dX7_isLess_46 : decode cX7_isLess 46 = .ok (.iload_n 2, 1) := by decide +kernel
theorem dX7_isLess_47 : decode cX7_isLess 47 = .ok (.iaload, 1) := by decide +kernel
theorem dX7_isLess_48 : decode cX7_isLess 48 = .ok (.if_icmp .ge 7, 3) := by decide +kernel
theorem dX7_isLess_51 : decode cX7_isLess 51 = .ok (.iconst 1, 1) := by decide +kernel
theorem dX7_isLess_52 : decode cX7_isLess 52 = .ok (.goto 4, 3) := by decide +kernel
theorem dX7_isLess_55 : decode cX7_isLess 55 = .ok (.iconst 0, 1) := by decide +kernel
theorem dX7_isLess_56 : decode cX7_isLess 56 = .ok (.ireturn, 1) := by decide +kernel
theorem dX7_pricesOf_0 : decode cX7_pricesOf 0 = .ok (.iload_n 1, 1) := by decide +kernel
theorem dX7_pricesOf_1 : decode cX7_pricesOf 1 = .ok (.aload_n 0, 1) := by decide +kernel
theorem dX7_pricesOf_2 : decode cX7_pricesOf 2 = .ok (.getfield 15, 3) := by decide +kernel
theorem dX7_pricesOf_5 : decode cX7_pricesOf 5 = .ok (.invokestatic 87, 3) := by decide +kernel
theorem dX7_pricesOf_8 : decode cX7_pricesOf 8 = .ok (.ireturn, 1) := by decide +kernel
theorem dX7_harmsOf_0 : decode cX7_harmsOf 0 = .ok (.iload_n 1, 1) := by decide +kernel
theorem dX7_harmsOf_1 : decode cX7_harmsOf 1 = .ok (.aload_n 0, 1) := by decide +kernel
theorem dX7_harmsOf_2 : decode cX7_harmsOf 2 = .ok (.getfield 18, 3) := by decide +kernel
theorem dX7_harmsOf_5 : decode cX7_harmsOf 5 = .ok (.invokestatic 87, 3) := by decide +kernel
theorem dX7_harmsOf_8 : decode cX7_harmsOf 8 = .ok (.ireturn, 1) := by decide +kernel
theorem dX7_sumOver_0 : decode cX7_sumOver 0 = .ok (.iconst 0, 1) := by decide +kernel
theorem dX7_sumOver_1 : decode cX7_sumOver 1 = .ok (.istore_n 2, 1) := by decide +kernel
theorem dX7_sumOver_2 : decode cX7_sumOver 2 = .ok (.iconst 0, 1) := by decide +kernel
theorem dX7_sumOver_3 : decode cX7_sumOver 3 = .ok (.istore_n 3, 1) := by decide +kernel
theorem dX7_sumOver_4 : decode cX7_sumOver 4 = .ok (.iload_n 3, 1) := by decide +kernel
theorem dX7_sumOver_5 : decode cX7_sumOver 5 = .ok (.bipush 28, 2) := by decide +kernel
theorem dX7_sumOver_7 : decode cX7_sumOver 7 = .ok (.if_icmp .ge 24, 3) := by decide +kernel
theorem dX7_sumOver_10 : decode cX7_sumOver 10 = .ok (.iload_n 0, 1) := by decide +kernel
theorem dX7_sumOver_11 : decode cX7_sumOver 11 = .ok (.iload_n 3, 1) := by decide +kernel
theorem dX7_sumOver_12 : decode cX7_sumOver 12 = .ok (.ishr, 1) := by decide +kernel
theorem dX7_sumOver_13 : decode cX7_sumOver 13 = .ok (.iconst 1, 1) := by decide +kernel
theorem dX7_sumOver_14 : decode cX7_sumOver 14 = .ok (.iand, 1) := by decide +kernel
theorem dX7_sumOver_15 : decode cX7_sumOver 15 = .ok (.iconst 1, 1) := by decide +kernel
theorem dX7_sumOver_16 : decode cX7_sumOver 16 = .ok (.if_icmp .ne 9, 3) := by decide +kernel
theorem dX7_sumOver_19 : decode cX7_sumOver 19 = .ok (.iload_n 2, 1) := by decide +kernel
theorem dX7_sumOver_20 : decode cX7_sumOver 20 = .ok (.aload_n 1, 1) := by decide +kernel
theorem dX7_sumOver_21 : decode cX7_sumOver 21 = .ok (.iload_n 3, 1) := by decide +kernel
theorem dX7_sumOver_22 : decode cX7_sumOver 22 = .ok (.iaload, 1) := by decide +kernel
theorem dX7_sumOver_23 : decode cX7_sumOver 23 = .ok (.iadd, 1) := by decide +kernel
theorem dX7_sumOver_24 : decode cX7_sumOver 24 = .ok (.istore_n 2, 1) := by decide +kernel
theorem dX7_sumOver_25 : decode cX7_sumOver 25 = .ok (.iinc 3 1, 3) := by decide +kernel
theorem dX7_sumOver_28 : decode cX7_sumOver 28 = .ok (.goto (-24), 3) := by decide +kernel
theorem dX7_sumOver_31 : decode cX7_sumOver 31 = .ok (.iload_n 2, 1) := by decide +kernel
theorem dX7_sumOver_32 : decode cX7_sumOver 32 = .ok (.ireturn, 1) := by decide +kernel
theorem dX7_memberOf_0 : decode cX7_memberOf 0 = .ok (.iload_n 1, 1) := by decide +kernel
theorem dX7_memberOf_1 : decode cX7_memberOf 1 = .ok (.istore_n 2, 1) := by decide +kernel
theorem dX7_memberOf_2 : decode cX7_memberOf 2 = .ok (.iconst 0, 1) := by decide +kernel
theorem dX7_memberOf_3 : decode cX7_memberOf 3 = .ok (.istore_n 3, 1) := by decide +kernel
theorem dX7_memberOf_4 : decode cX7_memberOf 4 = .ok (.iload_n 3, 1) := by decide +kernel
theorem dX7_memberOf_5 : decode cX7_memberOf 5 = .ok (.bipush 28, 2) := by decide +kernel
theorem dX7_memberOf_7 : decode cX7_memberOf 7 = .ok (.if_icmp .ge 27, 3) := by decide +kernel
theorem dX7_memberOf_10 : decode cX7_memberOf 10 = .ok (.iload_n 0, 1) := by decide +kernel
theorem dX7_memberOf_11 : decode cX7_memberOf 11 = .ok (.iload_n 3, 1) := by decide +kernel
theorem dX7_memberOf_12 : decode cX7_memberOf 12 = .ok (.ishr, 1) := by decide +kernel
theorem dX7_memberOf_13 : decode cX7_memberOf 13 = .ok (.iconst 1, 1) := by decide +kernel
theorem dX7_memberOf_14 : decode cX7_memberOf 14 = .ok (.iand, 1) := by decide +kernel
theorem dX7_memberOf_15 : decode cX7_memberOf 15 = .ok (.iconst 1, 1) := by decide +kernel
theorem dX7_memberOf_16 : decode cX7_memberOf 16 = .ok (.if_icmp .ne 12, 3) := by decide +kernel
theorem dX7_memberOf_19 : decode cX7_memberOf 19 = .ok (.iload_n 2, 1) := by decide +kernel
theorem dX7_memberOf_20 : decode cX7_memberOf 20 = .ok (.ifCond .ne 5, 3) := by decide +kernel
theorem dX7_memberOf_23 : decode cX7_memberOf 23 = .ok (.iload_n 3, 1) := by decide +kernel
theorem dX7_memberOf_24 : decode cX7_memberOf 24 = .ok (.ireturn, 1) := by decide +kernel
theorem dX7_memberOf_25 : decode cX7_memberOf 25 = .ok (.iinc 2 (-1), 3) := by decide +kernel
theorem dX7_memberOf_28 : decode cX7_memberOf 28 = .ok (.iinc 3 1, 3) := by decide +kernel
theorem dX7_memberOf_31 : decode cX7_memberOf 31 = .ok (.goto (-27), 3) := by decide +kernel
theorem dX7_memberOf_34 : decode cX7_memberOf 34 = .ok (.iconst (-1), 1) := by decide +kernel
theorem dX7_memberOf_35 : decode cX7_memberOf 35 = .ok (.ireturn, 1) := by decide +kernel
theorem dX7_commonDivisor_0 : decode cX7_commonDivisor 0 = .ok (.bipush 28, 2) := by decide +kernel
theorem dX7_commonDivisor_2 : decode cX7_commonDivisor 2 = .ok (.istore_n 1, 1) := by decide +kernel
theorem dX7_commonDivisor_3 : decode cX7_commonDivisor 3 = .ok (.iload_n 1, 1) := by decide +kernel
theorem dX7_commonDivisor_4 : decode cX7_commonDivisor 4 = .ok (.iconst 1, 1) := by decide +kernel
theorem dX7_commonDivisor_5 : decode cX7_commonDivisor 5 = .ok (.if_icmp .le 24, 3) := by decide +kernel
theorem dX7_commonDivisor_8 : decode cX7_commonDivisor 8 = .ok (.bipush 28, 2) := by decide +kernel
theorem dX7_commonDivisor_10 : decode cX7_commonDivisor 10 = .ok (.iload_n 1, 1) := by decide +kernel
theorem dX7_commonDivisor_11 : decode cX7_commonDivisor 11 = .ok (.irem, 1) := by decide +kernel
theorem dX7_commonDivisor_12 : decode cX7_commonDivisor 12 = .ok (.ifCond .ne 11, 3) := by decide +kernel
theorem dX7_commonDivisor_15 : decode cX7_commonDivisor 15 = .ok (.iload_n 0, 1) := by decide +kernel
theorem dX7_commonDivisor_16 : decode cX7_commonDivisor 16 = .ok (.iload_n 1, 1) := by decide +kernel
theorem dX7_commonDivisor_17 : decode cX7_commonDivisor 17 = .ok (.irem, 1) := by decide +kernel
theorem dX7_commonDivisor_18 : decode cX7_commonDivisor 18 = .ok (.ifCond .ne 5, 3) := by decide +kernel
theorem dX7_commonDivisor_21 : decode cX7_commonDivisor 21 = .ok (.iload_n 1, 1) := by decide +kernel
theorem dX7_commonDivisor_22 : decode cX7_commonDivisor 22 = .ok (.ireturn, 1) := by decide +kernel
theorem dX7_commonDivisor_23 : decode cX7_commonDivisor 23 = .ok (.iinc 1 (-1), 3) := by decide +kernel
theorem dX7_commonDivisor_26 : decode cX7_commonDivisor 26 = .ok (.goto (-23), 3) := by decide +kernel
theorem dX7_commonDivisor_29 : decode cX7_commonDivisor 29 = .ok (.iconst 1, 1) := by decide +kernel
theorem dX7_commonDivisor_30 : decode cX7_commonDivisor 30 = .ok (.ireturn, 1) := by decide +kernel
theorem dX8_init_0 : decode cX8_init 0 = .ok (.aload_n 0, 1) := by decide +kernel
theorem dX8_init_1 : decode cX8_init 1 = .ok (.invokespecial 3, 3) := by decide +kernel
theorem dX8_init_4 : decode cX8_init 4 = .ok (.aload_n 0, 1) := by decide +kernel
theorem dX8_init_5 : decode cX8_init 5 = .ok (.new 9, 3) := by decide +kernel
theorem dX8_init_8 : decode cX8_init 8 = .ok (.dup, 1) := by decide +kernel
theorem dX8_init_9 : decode cX8_init 9 = .ok (.bipush 30, 2) := by decide +kernel
theorem dX8_init_11 : decode cX8_init 11 = .ok (.invokespecial 11, 3) := by decide +kernel
theorem dX8_init_14 : decode cX8_init 14 = .ok (.putfield 14, 3) := by decide +kernel
theorem dX8_init_17 : decode cX8_init 17 = .ok (.aload_n 0, 1) := by decide +kernel
theorem dX8_init_18 : decode cX8_init 18 = .ok (.iconst 0, 1) := by decide +kernel
theorem dX8_init_19 : decode cX8_init 19 = .ok (.putfield 20, 3) := by decide +kernel
theorem dX8_init_22 : decode cX8_init 22 = .ok (.aload_n 0, 1) := by decide +kernel
theorem dX8_init_23 : decode cX8_init 23 = .ok (.iconst 0, 1) := by decide +kernel
theorem dX8_init_24 : decode cX8_init 24 = .ok (.putfield 24, 3) := by decide +kernel
theorem dX8_init_27 : decode cX8_init 27 = .ok (.aload_n 0, 1) := by decide +kernel
theorem dX8_init_28 : decode cX8_init 28 = .ok (.iconst 0, 1) := by decide +kernel
theorem dX8_init_29 : decode cX8_init 29 = .ok (.putfield 28, 3) := by decide +kernel
theorem dX8_init_32 : decode cX8_init 32 = .ok (.aload_n 0, 1) := by decide +kernel
theorem dX8_init_33 : decode cX8_init 33 = .ok (.iconst 0, 1) := by decide +kernel
theorem dX8_init_34 : decode cX8_init 34 = .ok (.putfield 31, 3) := by decide +kernel
theorem dX8_init_37 : decode cX8_init 37 = .ok (.return_, 1) := by decide +kernel
theorem dX8_startAs_0 : decode cX8_startAs 0 = .ok (.aload_n 0, 1) := by decide +kernel
theorem dX8_startAs_1 : decode cX8_startAs 1 = .ok (.getfield 14, 3) := by decide +kernel
theorem dX8_startAs_4 : decode cX8_startAs 4 = .ok (.iconst 0, 1) := by decide +kernel
theorem dX8_startAs_5 : decode cX8_startAs 5 = .ok (.putfield 34, 3) := by decide +kernel
theorem dX8_startAs_8 : decode cX8_startAs 8 = .ok (.aload_n 0, 1) := by decide +kernel
theorem dX8_startAs_9 : decode cX8_startAs 9 = .ok (.iconst 0, 1) := by decide +kernel
theorem dX8_startAs_10 : decode cX8_startAs 10 = .ok (.putfield 20, 3) := by decide +kernel
theorem dX8_startAs_13 : decode cX8_startAs 13 = .ok (.aload_n 0, 1) := by decide +kernel
theorem dX8_startAs_14 : decode cX8_startAs 14 = .ok (.aload_n 2, 1) := by decide +kernel
theorem dX8_startAs_15 : decode cX8_startAs 15 = .ok (.getfield 37, 3) := by decide +kernel
theorem dX8_startAs_18 : decode cX8_startAs 18 = .ok (.iload_n 1, 1) := by decide +kernel
theorem dX8_startAs_19 : decode cX8_startAs 19 = .ok (.iaload, 1) := by decide +kernel
theorem dX8_startAs_20 : decode cX8_startAs 20 = .ok (.putfield 24, 3) := by decide +kernel
theorem dX8_startAs_23 : decode cX8_startAs 23 = .ok (.aload_n 0, 1) := by decide +kernel
theorem dX8_startAs_24 : decode cX8_startAs 24 = .ok (.iload_n 1, 1) := by decide +kernel
theorem dX8_startAs_25 : decode cX8_startAs 25 = .ok (.putfield 28, 3) := by decide +kernel
theorem dX8_startAs_28 : decode cX8_startAs 28 = .ok (.aload_n 0, 1) := by decide +kernel
theorem dX8_startAs_29 : decode cX8_startAs 29 = .ok (.aload_n 2, 1) := by decide +kernel
theorem dX8_startAs_30 : decode cX8_startAs 30 = .ok (.getfield 43, 3) := by decide +kernel
theorem dX8_startAs_33 : decode cX8_startAs 33 = .ok (.iload_n 1, 1) := by decide +kernel
theorem dX8_startAs_34 : decode cX8_startAs 34 = .ok (.iaload, 1) := by decide +kernel
theorem dX8_startAs_35 : decode cX8_startAs 35 = .ok (.putfield 31, 3) := by decide +kernel
theorem dX8_startAs_38 : decode cX8_startAs 38 = .ok (.return_, 1) := by decide +kernel
theorem dX8_own_0 : decode cX8_own 0 = .ok (.aload_n 0, 1) := by decide +kernel
theorem dX8_own_1 : decode cX8_own 1 = .ok (.aload_n 0, 1) := by decide +kernel
theorem dX8_own_2 : decode cX8_own 2 = .ok (.getfield 24, 3) := by decide +kernel
theorem dX8_own_5 : decode cX8_own 5 = .ok (.iload_n 1, 1) := by decide +kernel
theorem dX8_own_6 : decode cX8_own 6 = .ok (.iload_n 2, 1) := by decide +kernel
theorem dX8_own_7 : decode cX8_own 7 = .ok (.iload_n 3, 1) := by decide +kernel
theorem dX8_own_8 : decode cX8_own 8 = .ok (.invokevirtual 46, 3) := by decide +kernel
theorem dX8_own_11 : decode cX8_own 11 = .ok (.ireturn, 1) := by decide +kernel
theorem dX8_sound_0 : decode cX8_sound 0 = .ok (.iload 4, 2) := by decide +kernel
theorem dX8_sound_2 : decode cX8_sound 2 = .ok (.bipush 12, 2) := by decide +kernel
theorem dX8_sound_4 : decode cX8_sound 4 = .ok (.if_icmp .le 5, 3) := by decide +kernel
theorem dX8_sound_7 : decode cX8_sound 7 = .ok (.iconst 0, 1) := by decide +kernel
theorem dX8_sound_8 : decode cX8_sound 8 = .ok (.ireturn, 1) := by decide +kernel
theorem dX8_sound_9 : decode cX8_sound 9 = .ok (.iload_n 1, 1) := by decide +kernel
theorem dX8_sound_10 : decode cX8_sound 10 = .ok (.iload_n 2, 1) := by decide +kernel
theorem dX8_sound_11 : decode cX8_sound 11 = .ok (.invokestatic 50, 3) := by decide +kernel
theorem dX8_sound_14 : decode cX8_sound 14 = .ok (.istore 5, 2) := by decide +kernel
theorem dX8_sound_16 : decode cX8_sound 16 = .ok (.iload 5, 2) := by decide +kernel
theorem dX8_sound_18 : decode cX8_sound 18 = .ok (.invokestatic 56, 3) := by decide +kernel
theorem dX8_sound_21 : decode cX8_sound 21 = .ok (.istore 6, 2) := by decide +kernel
theorem dX8_sound_23 : decode cX8_sound 23 = .ok (.iload 5, 2) := by decide +kernel
theorem dX8_sound_25 : decode cX8_sound 25 = .ok (.iload_n 2, 1) := by decide +kernel
theorem dX8_sound_26 : decode cX8_sound 26 = .ok (.invokestatic 60, 3) := by decide +kernel
theorem dX8_sound_29 : decode cX8_sound 29 = .ok (.istore 7, 2) := by decide +kernel
theorem dX8_sound_31 : decode cX8_sound 31 = .ok (.iload 4, 2) := by decide +kernel
theorem dX8_sound_33 : decode cX8_sound 33 = .ok (.iconst 1, 1) := by decide +kernel
theorem dX8_sound_34 : decode cX8_sound 34 = .ok (.iadd, 1) := by decide +kernel
theorem dX8_sound_35 : decode cX8_sound 35 = .ok (.istore 8, 2) := by decide +kernel
theorem dX8_sound_37 : decode cX8_sound 37 = .ok (.aload_n 0, 1) := by decide +kernel
theorem dX8_sound_38 : decode cX8_sound 38 = .ok (.getfield 14, 3) := by decide +kernel
theorem dX8_sound_41 : decode cX8_sound 41 = .ok (.iload 7, 2) := by decide +kernel
theorem dX8_sound_43 : decode cX8_sound 43 = .ok (.invokevirtual 63, 3) := by decide +kernel
theorem dX8_sound_46 : decode cX8_sound 46 = .ok (.iload 7, 2) := by decide +kernel
theorem dX8_sound_48 : decode cX8_sound 48 = .ok (.lookupswitch 273 #[(10, 116), (11, 123), (12, 134), (13, 148), (20, 163), (21, 176), (30, 186), (40, 199), (50, 212), (51, 225), (60, 241), (70, 254), (71, 257)], 116) := by decide +kernel
theorem dX8_sound_164 : decode cX8_sound 164 = .ok (.iload_n 3, 1) := by decide +kernel
theorem dX8_sound_165 : decode cX8_sound 165 = .ok (.aload_n 0, 1) := by decide +kernel
theorem dX8_sound_166 : decode cX8_sound 166 = .ok (.getfield 28, 3) := by decide +kernel
theorem dX8_sound_169 : decode cX8_sound 169 = .ok (.iadd, 1) := by decide +kernel
theorem dX8_sound_170 : decode cX8_sound 170 = .ok (.ireturn, 1) := by decide +kernel
theorem dX8_sound_171 : decode cX8_sound 171 = .ok (.aload_n 0, 1) := by decide +kernel
theorem dX8_sound_172 : decode cX8_sound 172 = .ok (.iconst 0, 1) := by decide +kernel
theorem dX8_sound_173 : decode cX8_sound 173 = .ok (.iload_n 3, 1) := by decide +kernel
theorem dX8_sound_174 : decode cX8_sound 174 = .ok (.iload 8, 2) := by decide +kernel
theorem dX8_sound_176 : decode cX8_sound 176 = .ok (.invokevirtual 66, 3) := by decide +kernel
theorem dX8_sound_179 : decode cX8_sound 179 = .ok (.iconst 2, 1) := by decide +kernel
theorem dX8_sound_180 : decode cX8_sound 180 = .ok (.imul, 1) := by decide +kernel
theorem dX8_sound_181 : decode cX8_sound 181 = .ok (.ireturn, 1) := by decide +kernel
theorem dX8_sound_182 : decode cX8_sound 182 = .ok (.aload_n 0, 1) := by decide +kernel
theorem dX8_sound_183 : decode cX8_sound 183 = .ok (.iconst 1, 1) := by decide +kernel
theorem dX8_sound_184 : decode cX8_sound 184 = .ok (.iload_n 3, 1) := by decide +kernel
theorem dX8_sound_185 : decode cX8_sound 185 = .ok (.iload 8, 2) := by decide +kernel
theorem dX8_sound_187 : decode cX8_sound 187 = .ok (.invokevirtual 66, 3) := by decide +kernel
theorem dX8_sound_190 : decode cX8_sound 190 = .ok (.aload_n 0, 1) := by decide +kernel
theorem dX8_sound_191 : decode cX8_sound 191 = .ok (.getfield 31, 3) := by decide +kernel
theorem dX8_sound_194 : decode cX8_sound 194 = .ok (.isub, 1) := by decide +kernel
theorem dX8_sound_195 : decode cX8_sound 195 = .ok (.ireturn, 1) := by decide +kernel
theorem dX8_sound_196 : decode cX8_sound 196 = .ok (.aload_n 0, 1) := by decide +kernel
theorem dX8_sound_197 : decode cX8_sound 197 = .ok (.iload_n 3, 1) := by decide +kernel
theorem dX8_sound_198 : decode cX8_sound 198 = .ok (.aload_n 0, 1) := by decide +kernel
theorem dX8_sound_199 : decode cX8_sound 199 = .ok (.getfield 31, 3) := by decide +kernel
theorem dX8_sound_202 : decode cX8_sound 202 = .ok (.aload_n 0, 1) := by decide +kernel
theorem dX8_sound_203 : decode cX8_sound 203 = .ok (.getfield 28, 3) := by decide +kernel
theorem dX8_sound_206 : decode cX8_sound 206 = .ok (.isub, 1) := by decide +kernel
theorem dX8_sound_207 : decode cX8_sound 207 = .ok (.invokevirtual 70, 3) := by decide +kernel
theorem dX8_sound_210 : decode cX8_sound 210 = .ok (.ireturn, 1) := by decide +kernel
theorem dX8_sound_211 : decode cX8_sound 211 = .ok (.aload_n 0, 1) := by decide +kernel
theorem dX8_sound_212 : decode cX8_sound 212 = .ok (.iload 6, 2) := by decide +kernel
theorem dX8_sound_214 : decode cX8_sound 214 = .ok (.iconst 0, 1) := by decide +kernel
theorem dX8_sound_215 : decode cX8_sound 215 = .ok (.iload_n 3, 1) := by decide +kernel
theorem dX8_sound_216 : decode cX8_sound 216 = .ok (.iload 8, 2) := by decide +kernel
theorem dX8_sound_218 : decode cX8_sound 218 = .ok (.invokevirtual 46, 3) := by decide +kernel
theorem dX8_sound_221 : decode cX8_sound 221 = .ok (.iconst 4, 1) := by decide +kernel
theorem dX8_sound_222 : decode cX8_sound 222 = .ok (.isub, 1) := by decide +kernel
theorem dX8_sound_223 : decode cX8_sound 223 = .ok (.ireturn, 1) := by decide +kernel
theorem dX8_sound_224 : decode cX8_sound 224 = .ok (.aload_n 0, 1) := by decide +kernel
theorem dX8_sound_225 : decode cX8_sound 225 = .ok (.iload 6, 2) := by decide +kernel
theorem dX8_sound_227 : decode cX8_sound 227 = .ok (.iload_n 3, 1) := by decide +kernel
theorem dX8_sound_228 : decode cX8_sound 228 = .ok (.iload 8, 2) := by decide +kernel
theorem dX8_sound_230 : decode cX8_sound 230 = .ok (.invokevirtual 73, 3) := by decide +kernel
theorem dX8_sound_233 : decode cX8_sound 233 = .ok (.ireturn, 1) := by decide +kernel
theorem dX8_sound_234 : decode cX8_sound 234 = .ok (.iconst 0, 1) := by decide +kernel
theorem dX8_sound_235 : decode cX8_sound 235 = .ok (.aload_n 0, 1) := by decide +kernel
theorem dX8_sound_236 : decode cX8_sound 236 = .ok (.iload 6, 2) := by decide +kernel
theorem dX8_sound_238 : decode cX8_sound 238 = .ok (.iconst 1, 1) := by decide +kernel
theorem dX8_sound_239 : decode cX8_sound 239 = .ok (.iload_n 3, 1) := by decide +kernel
theorem dX8_sound_240 : decode cX8_sound 240 = .ok (.iload 8, 2) := by decide +kernel
theorem dX8_sound_242 : decode cX8_sound 242 = .ok (.invokevirtual 46, 3) := by decide +kernel
theorem dX8_sound_245 : decode cX8_sound 245 = .ok (.isub, 1) := by decide +kernel
theorem dX8_sound_246 : decode cX8_sound 246 = .ok (.ireturn, 1) := by decide +kernel
theorem dX8_sound_247 : decode cX8_sound 247 = .ok (.aload_n 0, 1) := by decide +kernel
theorem dX8_sound_248 : decode cX8_sound 248 = .ok (.iload 6, 2) := by decide +kernel
theorem dX8_sound_250 : decode cX8_sound 250 = .ok (.iconst 2, 1) := by decide +kernel
theorem dX8_sound_251 : decode cX8_sound 251 = .ok (.iload_n 3, 1) := by decide +kernel
theorem dX8_sound_252 : decode cX8_sound 252 = .ok (.iconst 2, 1) := by decide +kernel
theorem dX8_sound_253 : decode cX8_sound 253 = .ok (.idiv, 1) := by decide +kernel
theorem dX8_sound_254 : decode cX8_sound 254 = .ok (.iload 8, 2) := by decide +kernel
theorem dX8_sound_256 : decode cX8_sound 256 = .ok (.invokevirtual 46, 3) := by decide +kernel
theorem dX8_sound_259 : decode cX8_sound 259 = .ok (.ireturn, 1) := by decide +kernel
theorem dX8_sound_260 : decode cX8_sound 260 = .ok (.aload_n 0, 1) := by decide +kernel
theorem dX8_sound_261 : decode cX8_sound 261 = .ok (.iload 6, 2) := by decide +kernel
theorem dX8_sound_263 : decode cX8_sound 263 = .ok (.iconst 0, 1) := by decide +kernel
theorem dX8_sound_264 : decode cX8_sound 264 = .ok (.iload_n 3, 1) := by decide +kernel
theorem dX8_sound_265 : decode cX8_sound 265 = .ok (.iload 8, 2) := by decide +kernel
theorem dX8_sound_267 : decode cX8_sound 267 = .ok (.invokevirtual 46, 3) := by decide +kernel
theorem dX8_sound_270 : decode cX8_sound 270 = .ok (.iconst 3, 1) := by decide +kernel
theorem dX8_sound_271 : decode cX8_sound 271 = .ok (.imul, 1) := by decide +kernel
theorem dX8_sound_272 : decode cX8_sound 272 = .ok (.ireturn, 1) := by decide +kernel
theorem dX8_sound_273 : decode cX8_sound 273 = .ok (.aload_n 0, 1) := by decide +kernel
theorem dX8_sound_274 : decode cX8_sound 274 = .ok (.iload 6, 2) := by decide +kernel
theorem dX8_sound_276 : decode cX8_sound 276 = .ok (.iconst 2, 1) := by decide +kernel
theorem dX8_sound_277 : decode cX8_sound 277 = .ok (.iload_n 3, 1) := by decide +kernel
theorem dX8_sound_278 : decode cX8_sound 278 = .ok (.iload 8, 2) := by decide +kernel
theorem dX8_sound_280 : decode cX8_sound 280 = .ok (.invokevirtual 46, 3) := by decide +kernel
theorem dX8_sound_283 : decode cX8_sound 283 = .ok (.aload_n 0, 1) := by decide +kernel
theorem dX8_sound_284 : decode cX8_sound 284 = .ok (.getfield 28, 3) := by decide +kernel
theorem dX8_sound_287 : decode cX8_sound 287 = .ok (.ixor, 1) := by decide +kernel
theorem dX8_sound_288 : decode cX8_sound 288 = .ok (.ireturn, 1) := by decide +kernel
theorem dX8_sound_289 : decode cX8_sound 289 = .ok (.aload_n 0, 1) := by decide +kernel
theorem dX8_sound_290 : decode cX8_sound 290 = .ok (.iload 6, 2) := by decide +kernel
theorem dX8_sound_292 : decode cX8_sound 292 = .ok (.iconst 1, 1) := by decide +kernel
theorem dX8_sound_293 : decode cX8_sound 293 = .ok (.iload_n 3, 1) := by decide +kernel
theorem dX8_sound_294 : decode cX8_sound 294 = .ok (.iconst 1, 1) := by decide +kernel
theorem dX8_sound_295 : decode cX8_sound 295 = .ok (.iadd, 1) := by decide +kernel
theorem dX8_sound_296 : decode cX8_sound 296 = .ok (.iload 8, 2) := by decide +kernel
theorem dX8_sound_298 : decode cX8_sound 298 = .ok (.invokevirtual 46, 3) := by decide +kernel
theorem dX8_sound_301 : decode cX8_sound 301 = .ok (.ireturn, 1) := by decide +kernel
theorem dX8_sound_302 : decode cX8_sound 302 = .ok (.bipush 9, 2) := by decide +kernel
theorem dX8_sound_304 : decode cX8_sound 304 = .ok (.ireturn, 1) := by decide +kernel
theorem dX8_sound_305 : decode cX8_sound 305 = .ok (.aload_n 0, 1) := by decide +kernel
theorem dX8_sound_306 : decode cX8_sound 306 = .ok (.iload 6, 2) := by decide +kernel
theorem dX8_sound_308 : decode cX8_sound 308 = .ok (.iconst 1, 1) := by decide +kernel
theorem dX8_sound_309 : decode cX8_sound 309 = .ok (.iload_n 3, 1) := by decide +kernel
theorem dX8_sound_310 : decode cX8_sound 310 = .ok (.iload 8, 2) := by decide +kernel
theorem dX8_sound_312 : decode cX8_sound 312 = .ok (.invokevirtual 46, 3) := by decide +kernel
theorem dX8_sound_315 : decode cX8_sound 315 = .ok (.aload_n 0, 1) := by decide +kernel
theorem dX8_sound_316 : decode cX8_sound 316 = .ok (.getfield 31, 3) := by decide +kernel
theorem dX8_sound_319 : decode cX8_sound 319 = .ok (.iadd, 1) := by decide +kernel
theorem dX8_sound_320 : decode cX8_sound 320 = .ok (.ireturn, 1) := by decide +kernel
theorem dX8_sound_321 : decode cX8_sound 321 = .ok (.iconst 0, 1) := by decide +kernel
theorem dX8_sound_322 : decode cX8_sound 322 = .ok (.ireturn, 1) := by decide +kernel
theorem dX8_partAndTrade_0 : decode cX8_partAndTrade 0 = .ok (.aload_n 0, 1) := by decide +kernel
theorem dX8_partAndTrade_1 : decode cX8_partAndTrade 1 = .ok (.iload_n 1, 1) := by decide +kernel
theorem dX8_partAndTrade_2 : decode cX8_partAndTrade 2 = .ok (.iconst 3, 1) := by decide +kernel
theorem dX8_partAndTrade_3 : decode cX8_partAndTrade 3 = .ok (.iload_n 2, 1) := by decide +kernel
theorem dX8_partAndTrade_4 : decode cX8_partAndTrade 4 = .ok (.iload_n 3, 1) := by decide +kernel
theorem dX8_partAndTrade_5 : decode cX8_partAndTrade 5 = .ok (.invokevirtual 46, 3) := by decide +kernel
theorem dX8_partAndTrade_8 : decode cX8_partAndTrade 8 = .ok (.istore 4, 2) := by decide +kernel
theorem dX8_partAndTrade_10 : decode cX8_partAndTrade 10 = .ok (.aload_n 0, 1) := by decide +kernel
theorem dX8_partAndTrade_11 : decode cX8_partAndTrade 11 = .ok (.getfield 20, 3) := by decide +kernel
theorem dX8_partAndTrade_14 : decode cX8_partAndTrade 14 = .ok (.ifCond .eq 7, 3) := by decide +kernel
theorem dX8_partAndTrade_17 : decode cX8_partAndTrade 17 = .ok (.iconst 0, 1) := by decide +kernel
theorem dX8_partAndTrade_18 : decode cX8_partAndTrade 18 = .ok (.goto 13, 3) := by decide +kernel
theorem dX8_partAndTrade_21 : decode cX8_partAndTrade 21 = .ok (.iload 4, 2) := by decide +kernel
theorem dX8_partAndTrade_23 : decode cX8_partAndTrade 23 = .ok (.aload_n 0, 1) := by decide +kernel
theorem dX8_partAndTrade_24 : decode cX8_partAndTrade 24 = .ok (.iconst 1, 1) := by decide +kernel
theorem dX8_partAndTrade_25 : decode cX8_partAndTrade 25 = .ok (.iconst 1, 1) := by decide +kernel
theorem dX8_partAndTrade_26 : decode cX8_partAndTrade 26 = .ok (.iload_n 3, 1) := by decide +kernel
theorem dX8_partAndTrade_27 : decode cX8_partAndTrade 27 = .ok (.invokevirtual 66, 3) := by decide +kernel
theorem dX8_partAndTrade_30 : decode cX8_partAndTrade 30 = .ok (.iadd, 1) := by decide +kernel
theorem dX8_partAndTrade_31 : decode cX8_partAndTrade 31 = .ok (.ireturn, 1) := by decide +kernel
theorem dX8_part_0 : decode cX8_part 0 = .ok (.iload_n 2, 1) := by decide +kernel
theorem dX8_part_1 : decode cX8_part 1 = .ok (.ifCond .ne 10, 3) := by decide +kernel
theorem dX8_part_4 : decode cX8_part 4 = .ok (.aload_n 0, 1) := by decide +kernel
theorem dX8_part_5 : decode cX8_part 5 = .ok (.iconst 1, 1) := by decide +kernel
theorem dX8_part_6 : decode cX8_part 6 = .ok (.putfield 20, 3) := by decide +kernel
theorem dX8_part_9 : decode cX8_part 9 = .ok (.iconst 0, 1) := by decide +kernel
theorem dX8_part_10 : decode cX8_part 10 = .ok (.ireturn, 1) := by decide +kernel
theorem dX8_part_11 : decode cX8_part 11 = .ok (.iload_n 1, 1) := by decide +kernel
theorem dX8_part_12 : decode cX8_part 12 = .ok (.iload_n 2, 1) := by decide +kernel
theorem dX8_part_13 : decode cX8_part 13 = .ok (.idiv, 1) := by decide +kernel
theorem dX8_part_14 : decode cX8_part 14 = .ok (.ireturn, 1) := by decide +kernel
theorem dX9_init_0 : decode cX9_init 0 = .ok (.aload_n 0, 1) := by decide +kernel
theorem dX9_init_1 : decode cX9_init 1 = .ok (.invokespecial 3, 3) := by decide +kernel
theorem dX9_init_4 : decode cX9_init 4 = .ok (.aload_n 0, 1) := by decide +kernel
theorem dX9_init_5 : decode cX9_init 5 = .ok (.new 9, 3) := by decide +kernel
theorem dX9_init_8 : decode cX9_init 8 = .ok (.dup, 1) := by decide +kernel
theorem dX9_init_9 : decode cX9_init 9 = .ok (.invokespecial 11, 3) := by decide +kernel
theorem dX9_init_12 : decode cX9_init 12 = .ok (.putfield 12, 3) := by decide +kernel
theorem dX9_init_15 : decode cX9_init 15 = .ok (.aload_n 0, 1) := by decide +kernel
theorem dX9_init_16 : decode cX9_init 16 = .ok (.new 18, 3) := by decide +kernel
theorem dX9_init_19 : decode cX9_init 19 = .ok (.dup, 1) := by decide +kernel
theorem dX9_init_20 : decode cX9_init 20 = .ok (.invokespecial 20, 3) := by decide +kernel
theorem dX9_init_23 : decode cX9_init 23 = .ok (.putfield 21, 3) := by decide +kernel
theorem dX9_init_26 : decode cX9_init 26 = .ok (.aload_n 0, 1) := by decide +kernel
theorem dX9_init_27 : decode cX9_init 27 = .ok (.new 25, 3) := by decide +kernel
theorem dX9_init_30 : decode cX9_init 30 = .ok (.dup, 1) := by decide +kernel
theorem dX9_init_31 : decode cX9_init 31 = .ok (.invokespecial 27, 3) := by decide +kernel
theorem dX9_init_34 : decode cX9_init 34 = .ok (.putfield 28, 3) := by decide +kernel
theorem dX9_init_37 : decode cX9_init 37 = .ok (.aload_n 0, 1) := by decide +kernel
theorem dX9_init_38 : decode cX9_init 38 = .ok (.new 25, 3) := by decide +kernel
theorem dX9_init_41 : decode cX9_init 41 = .ok (.dup, 1) := by decide +kernel
theorem dX9_init_42 : decode cX9_init 42 = .ok (.invokespecial 27, 3) := by decide +kernel
theorem dX9_init_45 : decode cX9_init 45 = .ok (.putfield 32, 3) := by decide +kernel
theorem dX9_init_48 : decode cX9_init 48 = .ok (.aload_n 0, 1) := by decide +kernel
theorem dX9_init_49 : decode cX9_init 49 = .ok (.new 35, 3) := by decide +kernel
theorem dX9_init_52 : decode cX9_init 52 = .ok (.dup, 1) := by decide +kernel
theorem dX9_init_53 : decode cX9_init 53 = .ok (.bipush 60, 2) := by decide +kernel
theorem dX9_init_55 : decode cX9_init 55 = .ok (.invokespecial 37, 3) := by decide +kernel
theorem dX9_init_58 : decode cX9_init 58 = .ok (.putfield 40, 3) := by decide +kernel
theorem dX9_init_61 : decode cX9_init 61 = .ok (.aload_n 0, 1) := by decide +kernel
theorem dX9_init_62 : decode cX9_init 62 = .ok (.new 35, 3) := by decide +kernel
theorem dX9_init_65 : decode cX9_init 65 = .ok (.dup, 1) := by decide +kernel
theorem dX9_init_66 : decode cX9_init 66 = .ok (.bipush 24, 2) := by decide +kernel
theorem dX9_init_68 : decode cX9_init 68 = .ok (.invokespecial 37, 3) := by decide +kernel
theorem dX9_init_71 : decode cX9_init 71 = .ok (.putfield 44, 3) := by decide +kernel
theorem dX9_init_74 : decode cX9_init 74 = .ok (.aload_n 0, 1) := by decide +kernel
theorem dX9_init_75 : decode cX9_init 75 = .ok (.iconst 0, 1) := by decide +kernel
theorem dX9_init_76 : decode cX9_init 76 = .ok (.putfield 47, 3) := by decide +kernel
theorem dX9_init_79 : decode cX9_init 79 = .ok (.aload_n 0, 1) := by decide +kernel
theorem dX9_init_80 : decode cX9_init 80 = .ok (.iconst 0, 1) := by decide +kernel
theorem dX9_init_81 : decode cX9_init 81 = .ok (.putfield 51, 3) := by decide +kernel
theorem dX9_init_84 : decode cX9_init 84 = .ok (.aload_n 0, 1) := by decide +kernel
theorem dX9_init_85 : decode cX9_init 85 = .ok (.iconst 0, 1) := by decide +kernel
theorem dX9_init_86 : decode cX9_init 86 = .ok (.putfield 54, 3) := by decide +kernel
theorem dX9_init_89 : decode cX9_init 89 = .ok (.aload_n 0, 1) := by decide +kernel
theorem dX9_init_90 : decode cX9_init 90 = .ok (.iconst 0, 1) := by decide +kernel
theorem dX9_init_91 : decode cX9_init 91 = .ok (.putfield 57, 3) := by decide +kernel
theorem dX9_init_94 : decode cX9_init 94 = .ok (.aload_n 0, 1) := by decide +kernel
theorem dX9_init_95 : decode cX9_init 95 = .ok (.iconst 0, 1) := by decide +kernel
theorem dX9_init_96 : decode cX9_init 96 = .ok (.putfield 60, 3) := by decide +kernel
theorem dX9_init_99 : decode cX9_init 99 = .ok (.aload_n 0, 1) := by decide +kernel
theorem dX9_init_100 : decode cX9_init 100 = .ok (.iconst 1, 1) := by decide +kernel
theorem dX9_init_101 : decode cX9_init 101 = .ok (.putfield 63, 3) := by decide +kernel
theorem dX9_init_104 : decode cX9_init 104 = .ok (.return_, 1) := by decide +kernel
theorem dX9_dayIn_0 : decode cX9_dayIn 0 = .ok (.aload_n 0, 1) := by decide +kernel
theorem dX9_dayIn_1 : decode cX9_dayIn 1 = .ok (.getfield 47, 3) := by decide +kernel
theorem dX9_dayIn_4 : decode cX9_dayIn 4 = .ok (.iload_n 1, 1) := by decide +kernel
theorem dX9_dayIn_5 : decode cX9_dayIn 5 = .ok (.iadd, 1) := by decide +kernel
theorem dX9_dayIn_6 : decode cX9_dayIn 6 = .ok (.bipush 28, 2) := by decide +kernel
theorem dX9_dayIn_8 : decode cX9_dayIn 8 = .ok (.irem, 1) := by decide +kernel
theorem dX9_dayIn_9 : decode cX9_dayIn 9 = .ok (.ireturn, 1) := by decide +kernel
theorem dX9_textOf_0 : decode cX9_textOf 0 = .ok (.iload_n 1, 1) := by decide +kernel
theorem dX9_textOf_1 : decode cX9_textOf 1 = .ok (.ifCond .ne 10, 3) := by decide +kernel
theorem dX9_textOf_4 : decode cX9_textOf 4 = .ok (.aload_n 0, 1) := by decide +kernel
theorem dX9_textOf_5 : decode cX9_textOf 5 = .ok (.getfield 28, 3) := by decide +kernel
theorem dX9_textOf_8 : decode cX9_textOf 8 = .ok (.goto 7, 3) := by decide +kernel
theorem dX9_textOf_11 : decode cX9_textOf 11 = .ok (.aload_n 0, 1) := by decide +kernel
theorem dX9_textOf_12 : decode cX9_textOf 12 = .ok (.getfield 32, 3) := by decide +kernel
theorem dX9_textOf_15 : decode cX9_textOf 15 = .ok (.areturn, 1) := by decide +kernel
theorem dX9_useGives_0 : decode cX9_useGives 0 = .ok (.iload_n 1, 1) := by decide +kernel
theorem dX9_useGives_1 : decode cX9_useGives 1 = .ok (.ifCond .ne 50, 3) := by decide +kernel
theorem dX9_useGives_4 : decode cX9_useGives 4 = .ok (.iload_n 3, 1) := by decide +kernel
theorem dX9_useGives_5 : decode cX9_useGives 5 = .ok (.iconst 4, 1) := by decide +kernel
theorem dX9_useGives_6 : decode cX9_useGives 6 = .ok (.if_icmp .le 8, 3) := by decide +kernel
theorem dX9_useGives_9 : decode cX9_useGives 9 = .ok (.bipush 15, 2) := by decide +kernel
theorem dX9_useGives_11 : decode cX9_useGives 11 = .ok (.goto 5, 3) := by decide +kernel
theorem dX9_useGives_14 : decode cX9_useGives 14 = .ok (.bipush 10, 2) := by decide +kernel
theorem dX9_useGives_16 : decode cX9_useGives 16 = .ok (.istore 5, 2) := by decide +kernel
theorem dX9_useGives_18 : decode cX9_useGives 18 = .ok (.aload_n 0, 1) := by decide +kernel
theorem dX9_useGives_19 : decode cX9_useGives 19 = .ok (.getfield 28, 3) := by decide +kernel
theorem dX9_useGives_22 : decode cX9_useGives 22 = .ok (.invokevirtual 66, 3) := by decide +kernel
theorem dX9_useGives_25 : decode cX9_useGives 25 = .ok (.ifCond .eq 23, 3) := by decide +kernel
theorem dX9_useGives_28 : decode cX9_useGives 28 = .ok (.aload_n 0, 1) := by decide +kernel
theorem dX9_useGives_29 : decode cX9_useGives 29 = .ok (.getfield 28, 3) := by decide +kernel
theorem dX9_useGives_32 : decode cX9_useGives 32 = .ok (.iload_n 2, 1) := by decide +kernel
theorem dX9_useGives_33 : decode cX9_useGives 33 = .ok (.iload_n 3, 1) := by decide +kernel
theorem dX9_useGives_34 : decode cX9_useGives 34 = .ok (.iload 4, 2) := by decide +kernel
theorem dX9_useGives_36 : decode cX9_useGives 36 = .ok (.invokevirtual 70, 3) := by decide +kernel
theorem dX9_useGives_39 : decode cX9_useGives 39 = .ok (.sipush 999, 3) := by decide +kernel
theorem dX9_useGives_42 : decode cX9_useGives 42 = .ok (.invokestatic 74, 3) := by decide +kernel
theorem dX9_useGives_45 : decode cX9_useGives 45 = .ok (.goto 5, 3) := by decide +kernel
theorem dX9_useGives_48 : decode cX9_useGives 48 = .ok (.iload 5, 2) := by decide +kernel
theorem dX9_useGives_50 : decode cX9_useGives 50 = .ok (.ireturn, 1) := by decide +kernel
theorem dX9_useGives_51 : decode cX9_useGives 51 = .ok (.aload_n 0, 1) := by decide +kernel
theorem dX9_useGives_52 : decode cX9_useGives 52 = .ok (.getfield 32, 3) := by decide +kernel
theorem dX9_useGives_55 : decode cX9_useGives 55 = .ok (.invokevirtual 66, 3) := by decide +kernel
theorem dX9_useGives_58 : decode cX9_useGives 58 = .ok (.ifCond .eq 22, 3) := by decide +kernel
theorem dX9_useGives_61 : decode cX9_useGives 61 = .ok (.aload_n 0, 1) := by decide +kernel
theorem dX9_useGives_62 : decode cX9_useGives 62 = .ok (.getfield 32, 3) := by decide +kernel
theorem dX9_useGives_65 : decode cX9_useGives 65 = .ok (.iload_n 2, 1) := by decide +kernel
theorem dX9_useGives_66 : decode cX9_useGives 66 = .ok (.iload_n 3, 1) := by decide +kernel
theorem dX9_useGives_67 : decode cX9_useGives 67 = .ok (.iload 4, 2) := by decide +kernel
theorem dX9_useGives_69 : decode cX9_useGives 69 = .ok (.invokevirtual 70, 3) := by decide +kernel
theorem dX9_useGives_72 : decode cX9_useGives 72 = .ok (.bipush 99, 2) := by decide +kernel
theorem dX9_useGives_74 : decode cX9_useGives 74 = .ok (.invokestatic 74, 3) := by decide +kernel
theorem dX9_useGives_77 : decode cX9_useGives 77 = .ok (.goto 4, 3) := by decide +kernel
theorem dX9_useGives_80 : decode cX9_useGives 80 = .ok (.iconst 0, 1) := by decide +kernel
theorem dX9_useGives_81 : decode cX9_useGives 81 = .ok (.ireturn, 1) := by decide +kernel
theorem dX9_held_0 : decode cX9_held 0 = .ok (.iconst 0, 1) := by decide +kernel
theorem dX9_held_1 : decode cX9_held 1 = .ok (.iload_n 1, 1) := by decide +kernel
theorem dX9_held_2 : decode cX9_held 2 = .ok (.iload_n 0, 1) := by decide +kernel
theorem dX9_held_3 : decode cX9_held 3 = .ok (.invokestatic 78, 3) := by decide +kernel
theorem dX9_held_6 : decode cX9_held 6 = .ok (.invokestatic 83, 3) := by decide +kernel
theorem dX9_held_9 : decode cX9_held 9 = .ok (.ireturn, 1) := by decide +kernel
theorem dX9_priceOf_0 : decode cX9_priceOf 0 = .ok (.aload_n 0, 1) := by decide +kernel
theorem dX9_priceOf_1 : decode cX9_priceOf 1 = .ok (.iconst 0, 1) := by decide +kernel
theorem dX9_priceOf_2 : decode cX9_priceOf 2 = .ok (.iload_n 2, 1) := by decide +kernel
theorem dX9_priceOf_3 : decode cX9_priceOf 3 = .ok (.iload_n 2, 1) := by decide +kernel
theorem dX9_priceOf_4 : decode cX9_priceOf 4 = .ok (.bipush 7, 2) := by decide +kernel
theorem dX9_priceOf_6 : decode cX9_priceOf 6 = .ok (.irem, 1) := by decide +kernel
theorem dX9_priceOf_7 : decode cX9_priceOf 7 = .ok (.aload_n 0, 1) := by decide +kernel
theorem dX9_priceOf_8 : decode cX9_priceOf 8 = .ok (.getfield 12, 3) := by decide +kernel
theorem dX9_priceOf_11 : decode cX9_priceOf 11 = .ok (.iload_n 1, 1) := by decide +kernel
theorem dX9_priceOf_12 : decode cX9_priceOf 12 = .ok (.iload_n 2, 1) := by decide +kernel
theorem dX9_priceOf_13 : decode cX9_priceOf 13 = .ok (.invokevirtual 86, 3) := by decide +kernel
theorem dX9_priceOf_16 : decode cX9_priceOf 16 = .ok (.invokevirtual 89, 3) := by decide +kernel
theorem dX9_priceOf_19 : decode cX9_priceOf 19 = .ok (.ireturn, 1) := by decide +kernel
theorem dX9_saleCanBe_0 : decode cX9_saleCanBe 0 = .ok (.aload_n 0, 1) := by decide +kernel
theorem dX9_saleCanBe_1 : decode cX9_saleCanBe 1 = .ok (.iload_n 1, 1) := by decide +kernel
theorem dX9_saleCanBe_2 : decode cX9_saleCanBe 2 = .ok (.iload_n 2, 1) := by decide +kernel
theorem dX9_saleCanBe_3 : decode cX9_saleCanBe 3 = .ok (.iload_n 3, 1) := by decide +kernel
theorem dX9_saleCanBe_4 : decode cX9_saleCanBe 4 = .ok (.invokevirtual 93, 3) := by decide +kernel
theorem dX9_saleCanBe_7 : decode cX9_saleCanBe 7 = .ok (.ifCond .eq 22, 3) := by decide +kernel
theorem dX9_saleCanBe_10 : decode cX9_saleCanBe 10 = .ok (.aload_n 0, 1) := by decide +kernel
theorem dX9_saleCanBe_11 : decode cX9_saleCanBe 11 = .ok (.iload_n 1, 1) := by decide +kernel
theorem dX9_saleCanBe_12 : decode cX9_saleCanBe 12 = .ok (.iload_n 2, 1) := by decide +kernel
theorem dX9_saleCanBe_13 : decode cX9_saleCanBe 13 = .ok (.aload_n 0, 1) := by decide +kernel
theorem dX9_saleCanBe_14 : decode cX9_saleCanBe 14 = .ok (.iload_n 1, 1) := by decide +kernel
theorem dX9_saleCanBe_15 : decode cX9_saleCanBe 15 = .ok (.iload_n 3, 1) := by decide +kernel
theorem dX9_saleCanBe_16 : decode cX9_saleCanBe 16 = .ok (.invokevirtual 97, 3) := by decide +kernel
theorem dX9_saleCanBe_19 : decode cX9_saleCanBe 19 = .ok (.invokevirtual 100, 3) := by decide +kernel
theorem dX9_saleCanBe_22 : decode cX9_saleCanBe 22 = .ok (.ifCond .eq 7, 3) := by decide +kernel
theorem dX9_saleCanBe_25 : decode cX9_saleCanBe 25 = .ok (.iconst 1, 1) := by decide +kernel
theorem dX9_saleCanBe_26 : decode cX9_saleCanBe 26 = .ok (.goto 4, 3) := by decide +kernel
theorem dX9_saleCanBe_29 : decode cX9_saleCanBe 29 = .ok (.iconst 0, 1) := by decide +kernel
theorem dX9_saleCanBe_30 : decode cX9_saleCanBe 30 = .ok (.ireturn, 1) := by decide +kernel
theorem dX9_dayCanPass_0 : decode cX9_dayCanPass 0 = .ok (.aload_n 0, 1) := by decide +kernel
theorem dX9_dayCanPass_1 : decode cX9_dayCanPass 1 = .ok (.getfield 12, 3) := by decide +kernel
theorem dX9_dayCanPass_4 : decode cX9_dayCanPass 4 = .ok (.iload_n 1, 1) := by decide +kernel
theorem dX9_dayCanPass_5 : decode cX9_dayCanPass 5 = .ok (.iload_n 3, 1) := by decide +kernel
theorem dX9_dayCanPass_6 : decode cX9_dayCanPass 6 = .ok (.invokevirtual 86, 3) := by decide +kernel
theorem dX9_dayCanPass_9 : decode cX9_dayCanPass 9 = .ok (.ifCond .le 21, 3) := by decide +kernel
theorem dX9_dayCanPass_12 : decode cX9_dayCanPass 12 = .ok (.aload_n 0, 1) := by decide +kernel
theorem dX9_dayCanPass_13 : decode cX9_dayCanPass 13 = .ok (.getfield 12, 3) := by decide +kernel
theorem dX9_dayCanPass_16 : decode cX9_dayCanPass 16 = .ok (.iload_n 2, 1) := by decide +kernel
theorem dX9_dayCanPass_17 : decode cX9_dayCanPass 17 = .ok (.iload_n 3, 1) := by decide +kernel
theorem dX9_dayCanPass_18 : decode cX9_dayCanPass 18 = .ok (.invokevirtual 86, 3) := by decide +kernel
theorem dX9_dayCanPass_21 : decode cX9_dayCanPass 21 = .ok (.bipush 9, 2) := by decide +kernel
theorem dX9_dayCanPass_23 : decode cX9_dayCanPass 23 = .ok (.if_icmp .ge 7, 3) := by decide +kernel
theorem dX9_dayCanPass_26 : decode cX9_dayCanPass 26 = .ok (.iconst 1, 1) := by decide +kernel
theorem dX9_dayCanPass_27 : decode cX9_dayCanPass 27 = .ok (.goto 4, 3) := by decide +kernel
theorem dX9_dayCanPass_30 : decode cX9_dayCanPass 30 = .ok (.iconst 0, 1) := by decide +kernel
theorem dX9_dayCanPass_31 : decode cX9_dayCanPass 31 = .ok (.ireturn, 1) := by decide +kernel
theorem dX9_canPay_0 : decode cX9_canPay 0 = .ok (.aload_n 0, 1) := by decide +kernel
theorem dX9_canPay_1 : decode cX9_canPay 1 = .ok (.getfield 12, 3) := by decide +kernel
theorem dX9_canPay_4 : decode cX9_canPay 4 = .ok (.getfield 103, 3) := by decide +kernel
theorem dX9_canPay_7 : decode cX9_canPay 7 = .ok (.iload_n 2, 1) := by decide +kernel
theorem dX9_canPay_8 : decode cX9_canPay 8 = .ok (.iaload, 1) := by decide +kernel
theorem dX9_canPay_9 : decode cX9_canPay 9 = .ok (.iload_n 3, 1) := by decide +kernel
theorem dX9_canPay_10 : decode cX9_canPay 10 = .ok (.if_icmp .lt 24, 3) := by decide +kernel
theorem dX9_canPay_13 : decode cX9_canPay 13 = .ok (.aload_n 0, 1) := by decide +kernel
theorem dX9_canPay_14 : decode cX9_canPay 14 = .ok (.getfield 12, 3) := by decide +kernel
theorem dX9_canPay_17 : decode cX9_canPay 17 = .ok (.getfield 103, 3) := by decide +kernel
theorem dX9_canPay_20 : decode cX9_canPay 20 = .ok (.iload_n 1, 1) := by decide +kernel
theorem dX9_canPay_21 : decode cX9_canPay 21 = .ok (.iaload, 1) := by decide +kernel
theorem dX9_canPay_22 : decode cX9_canPay 22 = .ok (.iload_n 3, 1) := by decide +kernel
theorem dX9_canPay_23 : decode cX9_canPay 23 = .ok (.iadd, 1) := by decide +kernel
theorem dX9_canPay_24 : decode cX9_canPay 24 = .ok (.sipush 9999, 3) := by decide +kernel
theorem dX9_canPay_27 : decode cX9_canPay 27 = .ok (.if_icmp .gt 7, 3) := by decide +kernel
theorem dX9_canPay_30 : decode cX9_canPay 30 = .ok (.iconst 1, 1) := by decide +kernel
theorem dX9_canPay_31 : decode cX9_canPay 31 = .ok (.goto 4, 3) := by decide +kernel
theorem dX9_canPay_34 : decode cX9_canPay 34 = .ok (.iconst 0, 1) := by decide +kernel
theorem dX9_canPay_35 : decode cX9_canPay 35 = .ok (.ireturn, 1) := by decide +kernel
theorem dX9_weekCanBe_0 : decode cX9_weekCanBe 0 = .ok (.iconst 0, 1) := by decide +kernel
theorem dX9_weekCanBe_1 : decode cX9_weekCanBe 1 = .ok (.istore 4, 2) := by decide +kernel
theorem dX9_weekCanBe_3 : decode cX9_weekCanBe 3 = .ok (.iload_n 3, 1) := by decide +kernel
theorem dX9_weekCanBe_4 : decode cX9_weekCanBe 4 = .ok (.bipush 7, 2) := by decide +kernel
theorem dX9_weekCanBe_6 : decode cX9_weekCanBe 6 = .ok (.imul, 1) := by decide +kernel
theorem dX9_weekCanBe_7 : decode cX9_weekCanBe 7 = .ok (.istore 5, 2) := by decide +kernel
theorem dX9_weekCanBe_9 : decode cX9_weekCanBe 9 = .ok (.iload 5, 2) := by decide +kernel
theorem dX9_weekCanBe_11 : decode cX9_weekCanBe 11 = .ok (.iload_n 3, 1) := by decide +kernel
theorem dX9_weekCanBe_12 : decode cX9_weekCanBe 12 = .ok (.iconst 1, 1) := by decide +kernel
theorem dX9_weekCanBe_13 : decode cX9_weekCanBe 13 = .ok (.iadd, 1) := by decide +kernel
theorem dX9_weekCanBe_14 : decode cX9_weekCanBe 14 = .ok (.bipush 7, 2) := by decide +kernel
theorem dX9_weekCanBe_16 : decode cX9_weekCanBe 16 = .ok (.imul, 1) := by decide +kernel
theorem dX9_weekCanBe_17 : decode cX9_weekCanBe 17 = .ok (.if_icmp .ge 34, 3) := by decide +kernel
theorem dX9_weekCanBe_20 : decode cX9_weekCanBe 20 = .ok (.aload_n 0, 1) := by decide +kernel
theorem dX9_weekCanBe_21 : decode cX9_weekCanBe 21 = .ok (.iload_n 1, 1) := by decide +kernel
theorem dX9_weekCanBe_22 : decode cX9_weekCanBe 22 = .ok (.iload_n 2, 1) := by decide +kernel
theorem dX9_weekCanBe_23 : decode cX9_weekCanBe 23 = .ok (.iload 5, 2) := by decide +kernel
theorem dX9_weekCanBe_25 : decode cX9_weekCanBe 25 = .ok (.invokevirtual 93, 3) := by decide +kernel
theorem dX9_weekCanBe_28 : decode cX9_weekCanBe 28 = .ok (.ifCond .ne 5, 3) := by decide +kernel
theorem dX9_weekCanBe_31 : decode cX9_weekCanBe 31 = .ok (.iconst 0, 1) := by decide +kernel
theorem dX9_weekCanBe_32 : decode cX9_weekCanBe 32 = .ok (.ireturn, 1) := by decide +kernel
theorem dX9_weekCanBe_33 : decode cX9_weekCanBe 33 = .ok (.iload 4, 2) := by decide +kernel
theorem dX9_weekCanBe_35 : decode cX9_weekCanBe 35 = .ok (.aload_n 0, 1) := by decide +kernel
theorem dX9_weekCanBe_36 : decode cX9_weekCanBe 36 = .ok (.iload_n 1, 1) := by decide +kernel
theorem dX9_weekCanBe_37 : decode cX9_weekCanBe 37 = .ok (.iload 5, 2) := by decide +kernel
theorem dX9_weekCanBe_39 : decode cX9_weekCanBe 39 = .ok (.invokevirtual 97, 3) := by decide +kernel
theorem dX9_weekCanBe_42 : decode cX9_weekCanBe 42 = .ok (.iadd, 1) := by decide +kernel
theorem dX9_weekCanBe_43 : decode cX9_weekCanBe 43 = .ok (.istore 4, 2) := by decide +kernel
theorem dX9_weekCanBe_45 : decode cX9_weekCanBe 45 = .ok (.iinc 5 1, 3) := by decide +kernel
theorem dX9_weekCanBe_48 : decode cX9_weekCanBe 48 = .ok (.goto (-39), 3) := by decide +kernel
theorem dX9_weekCanBe_51 : decode cX9_weekCanBe 51 = .ok (.aload_n 0, 1) := by decide +kernel
theorem dX9_weekCanBe_52 : decode cX9_weekCanBe 52 = .ok (.iload_n 1, 1) := by decide +kernel
theorem dX9_weekCanBe_53 : decode cX9_weekCanBe 53 = .ok (.iload_n 2, 1) := by decide +kernel
theorem dX9_weekCanBe_54 : decode cX9_weekCanBe 54 = .ok (.iload 4, 2) := by decide +kernel
theorem dX9_weekCanBe_56 : decode cX9_weekCanBe 56 = .ok (.invokevirtual 100, 3) := by decide +kernel
theorem dX9_weekCanBe_59 : decode cX9_weekCanBe 59 = .ok (.ireturn, 1) := by decide +kernel
theorem dX9_makeSale_0 : decode cX9_makeSale 0 = .ok (.aload_n 0, 1) := by decide +kernel
theorem dX9_makeSale_1 : decode cX9_makeSale 1 = .ok (.iload_n 1, 1) := by decide +kernel
theorem dX9_makeSale_2 : decode cX9_makeSale 2 = .ok (.iload_n 3, 1) := by decide +kernel
theorem dX9_makeSale_3 : decode cX9_makeSale 3 = .ok (.invokevirtual 97, 3) := by decide +kernel
theorem dX9_makeSale_6 : decode cX9_makeSale 6 = .ok (.istore 4, 2) := by decide +kernel
theorem dX9_makeSale_8 : decode cX9_makeSale 8 = .ok (.aload_n 0, 1) := by decide +kernel
theorem dX9_makeSale_9 : decode cX9_makeSale 9 = .ok (.getfield 12, 3) := by decide +kernel
theorem dX9_makeSale_12 : decode cX9_makeSale 12 = .ok (.getfield 103, 3) := by decide +kernel
theorem dX9_makeSale_15 : decode cX9_makeSale 15 = .ok (.iload_n 2, 1) := by decide +kernel
theorem dX9_makeSale_16 : decode cX9_makeSale 16 = .ok (.dup2, 1) := by decide +kernel
theorem dX9_makeSale_17 : decode cX9_makeSale 17 = .ok (.iaload, 1) := by decide +kernel
theorem dX9_makeSale_18 : decode cX9_makeSale 18 = .ok (.iload 4, 2) := by decide +kernel
theorem dX9_makeSale_20 : decode cX9_makeSale 20 = .ok (.isub, 1) := by decide +kernel
theorem dX9_makeSale_21 : decode cX9_makeSale 21 = .ok (.iastore, 1) := by decide +kernel
theorem dX9_makeSale_22 : decode cX9_makeSale 22 = .ok (.aload_n 0, 1) := by decide +kernel
theorem dX9_makeSale_23 : decode cX9_makeSale 23 = .ok (.getfield 12, 3) := by decide +kernel
theorem dX9_makeSale_26 : decode cX9_makeSale 26 = .ok (.getfield 103, 3) := by decide +kernel
theorem dX9_makeSale_29 : decode cX9_makeSale 29 = .ok (.iload_n 1, 1) := by decide +kernel
theorem dX9_makeSale_30 : decode cX9_makeSale 30 = .ok (.dup2, 1) := by decide +kernel
theorem dX9_makeSale_31 : decode cX9_makeSale 31 = .ok (.iaload, 1) := by decide +kernel
theorem dX9_makeSale_32 : decode cX9_makeSale 32 = .ok (.iload 4, 2) := by decide +kernel
theorem dX9_makeSale_34 : decode cX9_makeSale 34 = .ok (.iadd, 1) := by decide +kernel
theorem dX9_makeSale_35 : decode cX9_makeSale 35 = .ok (.iastore, 1) := by decide +kernel
theorem dX9_makeSale_36 : decode cX9_makeSale 36 = .ok (.aload_n 0, 1) := by decide +kernel
theorem dX9_makeSale_37 : decode cX9_makeSale 37 = .ok (.getfield 12, 3) := by decide +kernel
theorem dX9_makeSale_40 : decode cX9_makeSale 40 = .ok (.iload_n 1, 1) := by decide +kernel
theorem dX9_makeSale_41 : decode cX9_makeSale 41 = .ok (.iload_n 3, 1) := by decide +kernel
theorem dX9_makeSale_42 : decode cX9_makeSale 42 = .ok (.aload_n 0, 1) := by decide +kernel
theorem dX9_makeSale_43 : decode cX9_makeSale 43 = .ok (.getfield 12, 3) := by decide +kernel
theorem dX9_makeSale_46 : decode cX9_makeSale 46 = .ok (.iload_n 1, 1) := by decide +kernel
theorem dX9_makeSale_47 : decode cX9_makeSale 47 = .ok (.iload_n 3, 1) := by decide +kernel
theorem dX9_makeSale_48 : decode cX9_makeSale 48 = .ok (.invokevirtual 86, 3) := by decide +kernel
theorem dX9_makeSale_51 : decode cX9_makeSale 51 = .ok (.iconst 1, 1) := by decide +kernel
theorem dX9_makeSale_52 : decode cX9_makeSale 52 = .ok (.isub, 1) := by decide +kernel
theorem dX9_makeSale_53 : decode cX9_makeSale 53 = .ok (.invokevirtual 107, 3) := by decide +kernel
theorem dX9_makeSale_56 : decode cX9_makeSale 56 = .ok (.aload_n 0, 1) := by decide +kernel
theorem dX9_makeSale_57 : decode cX9_makeSale 57 = .ok (.getfield 12, 3) := by decide +kernel
theorem dX9_makeSale_60 : decode cX9_makeSale 60 = .ok (.iload_n 2, 1) := by decide +kernel
theorem dX9_makeSale_61 : decode cX9_makeSale 61 = .ok (.iload_n 3, 1) := by decide +kernel
theorem dX9_makeSale_62 : decode cX9_makeSale 62 = .ok (.aload_n 0, 1) := by decide +kernel
theorem dX9_makeSale_63 : decode cX9_makeSale 63 = .ok (.getfield 12, 3) := by decide +kernel
theorem dX9_makeSale_66 : decode cX9_makeSale 66 = .ok (.iload_n 2, 1) := by decide +kernel
theorem dX9_makeSale_67 : decode cX9_makeSale 67 = .ok (.iload_n 3, 1) := by decide +kernel
theorem dX9_makeSale_68 : decode cX9_makeSale 68 = .ok (.invokevirtual 86, 3) := by decide +kernel
theorem dX9_makeSale_71 : decode cX9_makeSale 71 = .ok (.iconst 1, 1) := by decide +kernel
theorem dX9_makeSale_72 : decode cX9_makeSale 72 = .ok (.iadd, 1) := by decide +kernel
theorem dX9_makeSale_73 : decode cX9_makeSale 73 = .ok (.invokevirtual 107, 3) := by decide +kernel
theorem dX9_makeSale_76 : decode cX9_makeSale 76 = .ok (.iload 4, 2) := by decide +kernel
theorem dX9_makeSale_78 : decode cX9_makeSale 78 = .ok (.ireturn, 1) := by decide +kernel
theorem dX9_saleByDraws_0 : decode cX9_saleByDraws 0 = .ok (.aload_n 0, 1) := by decide +kernel
theorem dX9_saleByDraws_1 : decode cX9_saleByDraws 1 = .ok (.getfield 12, 3) := by decide +kernel
theorem dX9_saleByDraws_4 : decode cX9_saleByDraws 4 = .ok (.getfield 111, 3) := by decide +kernel
theorem dX9_saleByDraws_7 : decode cX9_saleByDraws 7 = .ok (.iconst 2, 1) := by decide +kernel
theorem dX9_saleByDraws_8 : decode cX9_saleByDraws 8 = .ok (.if_icmp .ge 5, 3) := by decide +kernel
theorem dX9_saleByDraws_11 : decode cX9_saleByDraws 11 = .ok (.iconst 0, 1) := by decide +kernel
theorem dX9_saleByDraws_12 : decode cX9_saleByDraws 12 = .ok (.ireturn, 1) := by decide +kernel
theorem dX9_saleByDraws_13 : decode cX9_saleByDraws 13 = .ok (.aload_n 0, 1) := by decide +kernel
theorem dX9_saleByDraws_14 : decode cX9_saleByDraws 14 = .ok (.invokevirtual 114, 3) := by decide +kernel
theorem dX9_saleByDraws_17 : decode cX9_saleByDraws 17 = .ok (.aload_n 0, 1) := by decide +kernel
theorem dX9_saleByDraws_18 : decode cX9_saleByDraws 18 = .ok (.getfield 12, 3) := by decide +kernel
theorem dX9_saleByDraws_21 : decode cX9_saleByDraws 21 = .ok (.getfield 111, 3) := by decide +kernel
theorem dX9_saleByDraws_24 : decode cX9_saleByDraws 24 = .ok (.irem, 1) := by decide +kernel
theorem dX9_saleByDraws_25 : decode cX9_saleByDraws 25 = .ok (.istore_n 1, 1) := by decide +kernel
theorem dX9_saleByDraws_26 : decode cX9_saleByDraws 26 = .ok (.aload_n 0, 1) := by decide +kernel
theorem dX9_saleByDraws_27 : decode cX9_saleByDraws 27 = .ok (.invokevirtual 114, 3) := by decide +kernel
theorem dX9_saleByDraws_30 : decode cX9_saleByDraws 30 = .ok (.aload_n 0, 1) := by decide +kernel
theorem dX9_saleByDraws_31 : decode cX9_saleByDraws 31 = .ok (.getfield 12, 3) := by decide +kernel
theorem dX9_saleByDraws_34 : decode cX9_saleByDraws 34 = .ok (.getfield 111, 3) := by decide +kernel
theorem dX9_saleByDraws_37 : decode cX9_saleByDraws 37 = .ok (.irem, 1) := by decide +kernel
theorem dX9_saleByDraws_38 : decode cX9_saleByDraws 38 = .ok (.istore_n 2, 1) := by decide +kernel
theorem dX9_saleByDraws_39 : decode cX9_saleByDraws 39 = .ok (.aload_n 0, 1) := by decide +kernel
theorem dX9_saleByDraws_40 : decode cX9_saleByDraws 40 = .ok (.invokevirtual 114, 3) := by decide +kernel
theorem dX9_saleByDraws_43 : decode cX9_saleByDraws 43 = .ok (.bipush 28, 2) := by decide +kernel
theorem dX9_saleByDraws_45 : decode cX9_saleByDraws 45 = .ok (.irem, 1) := by decide +kernel
theorem dX9_saleByDraws_46 : decode cX9_saleByDraws 46 = .ok (.istore_n 3, 1) := by decide +kernel
theorem dX9_saleByDraws_47 : decode cX9_saleByDraws 47 = .ok (.iload_n 1, 1) := by decide +kernel
theorem dX9_saleByDraws_48 : decode cX9_saleByDraws 48 = .ok (.iload_n 2, 1) := by decide +kernel
theorem dX9_saleByDraws_49 : decode cX9_saleByDraws 49 = .ok (.if_icmp .eq 13, 3) := by decide +kernel
theorem dX9_saleByDraws_52 : decode cX9_saleByDraws 52 = .ok (.aload_n 0, 1) := by decide +kernel
theorem dX9_saleByDraws_53 : decode cX9_saleByDraws 53 = .ok (.iload_n 1, 1) := by decide +kernel
theorem dX9_saleByDraws_54 : decode cX9_saleByDraws 54 = .ok (.iload_n 2, 1) := by decide +kernel
theorem dX9_saleByDraws_55 : decode cX9_saleByDraws 55 = .ok (.iload_n 3, 1) := by decide +kernel
theorem dX9_saleByDraws_56 : decode cX9_saleByDraws 56 = .ok (.invokevirtual 118, 3) := by decide +kernel
theorem dX9_saleByDraws_59 : decode cX9_saleByDraws 59 = .ok (.ifCond .ne 5, 3) := by decide +kernel
theorem dX9_saleByDraws_62 : decode cX9_saleByDraws 62 = .ok (.iconst 0, 1) := by decide +kernel
theorem dX9_saleByDraws_63 : decode cX9_saleByDraws 63 = .ok (.ireturn, 1) := by decide +kernel
theorem dX9_saleByDraws_64 : decode cX9_saleByDraws 64 = .ok (.aload_n 0, 1) := by decide +kernel
theorem dX9_saleByDraws_65 : decode cX9_saleByDraws 65 = .ok (.iload_n 1, 1) := by decide +kernel
theorem dX9_saleByDraws_66 : decode cX9_saleByDraws 66 = .ok (.iload_n 2, 1) := by decide +kernel
theorem dX9_saleByDraws_67 : decode cX9_saleByDraws 67 = .ok (.iload_n 3, 1) := by decide +kernel
theorem dX9_saleByDraws_68 : decode cX9_saleByDraws 68 = .ok (.invokevirtual 121, 3) := by decide +kernel
theorem dX9_saleByDraws_71 : decode cX9_saleByDraws 71 = .ok (.pop, 1) := by decide +kernel
theorem dX9_saleByDraws_72 : decode cX9_saleByDraws 72 = .ok (.iconst 1, 1) := by decide +kernel
theorem dX9_saleByDraws_73 : decode cX9_saleByDraws 73 = .ok (.ireturn, 1) := by decide +kernel
theorem dX9_draw_0 : decode cX9_draw 0 = .ok (.aload_n 0, 1) := by decide +kernel
theorem dX9_draw_1 : decode cX9_draw 1 = .ok (.aload_n 0, 1) := by decide +kernel
theorem dX9_draw_2 : decode cX9_draw 2 = .ok (.getfield 63, 3) := by decide +kernel
theorem dX9_draw_5 : decode cX9_draw 5 = .ok (.ldc 124, 2) := by decide +kernel
theorem dX9_draw_7 : decode cX9_draw 7 = .ok (.imul, 1) := by decide +kernel
theorem dX9_draw_8 : decode cX9_draw 8 = .ok (.sipush 12345, 3) := by decide +kernel
theorem dX9_draw_11 : decode cX9_draw 11 = .ok (.iadd, 1) := by decide +kernel
theorem dX9_draw_12 : decode cX9_draw 12 = .ok (.putfield 63, 3) := by decide +kernel
theorem dX9_draw_15 : decode cX9_draw 15 = .ok (.aload_n 0, 1) := by decide +kernel
theorem dX9_draw_16 : decode cX9_draw 16 = .ok (.getfield 63, 3) := by decide +kernel
theorem dX9_draw_19 : decode cX9_draw 19 = .ok (.bipush 8, 2) := by decide +kernel
theorem dX9_draw_21 : decode cX9_draw 21 = .ok (.iushr, 1) := by decide +kernel
theorem dX9_draw_22 : decode cX9_draw 22 = .ok (.ireturn, 1) := by decide +kernel
theorem dX9_letDayGo_0 : decode cX9_letDayGo 0 = .ok (.aload_n 0, 1) := by decide +kernel
theorem dX9_letDayGo_1 : decode cX9_letDayGo 1 = .ok (.iconst 0, 1) := by decide +kernel
theorem dX9_letDayGo_2 : decode cX9_letDayGo 2 = .ok (.invokevirtual 125, 3) := by decide +kernel
theorem dX9_letDayGo_5 : decode cX9_letDayGo 5 = .ok (.istore_n 1, 1) := by decide +kernel
theorem dX9_letDayGo_6 : decode cX9_letDayGo 6 = .ok (.iconst 0, 1) := by decide +kernel
theorem dX9_letDayGo_7 : decode cX9_letDayGo 7 = .ok (.istore_n 2, 1) := by decide +kernel
theorem dX9_letDayGo_8 : decode cX9_letDayGo 8 = .ok (.iconst 0, 1) := by decide +kernel
theorem dX9_letDayGo_9 : decode cX9_letDayGo 9 = .ok (.istore_n 3, 1) := by decide +kernel
theorem dX9_letDayGo_10 : decode cX9_letDayGo 10 = .ok (.iload_n 3, 1) := by decide +kernel
theorem dX9_letDayGo_11 : decode cX9_letDayGo 11 = .ok (.aload_n 0, 1) := by decide +kernel
theorem dX9_letDayGo_12 : decode cX9_letDayGo 12 = .ok (.getfield 12, 3) := by decide +kernel
theorem dX9_letDayGo_15 : decode cX9_letDayGo 15 = .ok (.getfield 111, 3) := by decide +kernel
theorem dX9_letDayGo_18 : decode cX9_letDayGo 18 = .ok (.if_icmp .ge 36, 3) := by decide +kernel
theorem dX9_letDayGo_21 : decode cX9_letDayGo 21 = .ok (.aload_n 0, 1) := by decide +kernel
theorem dX9_letDayGo_22 : decode cX9_letDayGo 22 = .ok (.getfield 12, 3) := by decide +kernel
theorem dX9_letDayGo_25 : decode cX9_letDayGo 25 = .ok (.iload_n 3, 1) := by decide +kernel
theorem dX9_letDayGo_26 : decode cX9_letDayGo 26 = .ok (.iload_n 1, 1) := by decide +kernel
theorem dX9_letDayGo_27 : decode cX9_letDayGo 27 = .ok (.invokevirtual 129, 3) := by decide +kernel
theorem dX9_letDayGo_30 : decode cX9_letDayGo 30 = .ok (.istore 4, 2) := by decide +kernel
theorem dX9_letDayGo_32 : decode cX9_letDayGo 32 = .ok (.iload 4, 2) := by decide +kernel
theorem dX9_letDayGo_34 : decode cX9_letDayGo 34 = .ok (.ifCond .le 14, 3) := by decide +kernel
theorem dX9_letDayGo_37 : decode cX9_letDayGo 37 = .ok (.iinc 2 1, 3) := by decide +kernel
theorem dX9_letDayGo_40 : decode cX9_letDayGo 40 = .ok (.aload_n 0, 1) := by decide +kernel
theorem dX9_letDayGo_41 : decode cX9_letDayGo 41 = .ok (.iload_n 3, 1) := by decide +kernel
theorem dX9_letDayGo_42 : decode cX9_letDayGo 42 = .ok (.iload_n 1, 1) := by decide +kernel
theorem dX9_letDayGo_43 : decode cX9_letDayGo 43 = .ok (.iload 4, 2) := by decide +kernel
theorem dX9_letDayGo_45 : decode cX9_letDayGo 45 = .ok (.invokevirtual 132, 3) := by decide +kernel
theorem dX9_letDayGo_48 : decode cX9_letDayGo 48 = .ok (.iinc 3 1, 3) := by decide +kernel
theorem dX9_letDayGo_51 : decode cX9_letDayGo 51 = .ok (.goto (-41), 3) := by decide +kernel
theorem dX9_letDayGo_54 : decode cX9_letDayGo 54 = .ok (.aload_n 0, 1) := by decide +kernel
theorem dX9_letDayGo_55 : decode cX9_letDayGo 55 = .ok (.iload_n 1, 1) := by decide +kernel
theorem dX9_letDayGo_56 : decode cX9_letDayGo 56 = .ok (.invokevirtual 135, 3) := by decide +kernel
theorem dX9_letDayGo_59 : decode cX9_letDayGo 59 = .ok (.iload_n 2, 1) := by decide +kernel
theorem dX9_letDayGo_60 : decode cX9_letDayGo 60 = .ok (.ifCond .ne 14, 3) := by decide +kernel
theorem dX9_letDayGo_63 : decode cX9_letDayGo 63 = .ok (.aload_n 0, 1) := by decide +kernel
theorem dX9_letDayGo_64 : decode cX9_letDayGo 64 = .ok (.aload_n 0, 1) := by decide +kernel
theorem dX9_letDayGo_65 : decode cX9_letDayGo 65 = .ok (.getfield 60, 3) := by decide +kernel
theorem dX9_letDayGo_68 : decode cX9_letDayGo 68 = .ok (.invokestatic 138, 3) := by decide +kernel
theorem dX9_letDayGo_71 : decode cX9_letDayGo 71 = .ok (.putfield 60, 3) := by decide +kernel
theorem dX9_letDayGo_74 : decode cX9_letDayGo 74 = .ok (.aload_n 0, 1) := by decide +kernel
theorem dX9_letDayGo_75 : decode cX9_letDayGo 75 = .ok (.dup, 1) := by decide +kernel
theorem dX9_letDayGo_76 : decode cX9_letDayGo 76 = .ok (.getfield 47, 3) := by decide +kernel
theorem dX9_letDayGo_79 : decode cX9_letDayGo 79 = .ok (.iconst 1, 1) := by decide +kernel
theorem dX9_letDayGo_80 : decode cX9_letDayGo 80 = .ok (.iadd, 1) := by decide +kernel
theorem dX9_letDayGo_81 : decode cX9_letDayGo 81 = .ok (.putfield 47, 3) := by decide +kernel
theorem dX9_letDayGo_84 : decode cX9_letDayGo 84 = .ok (.iload_n 2, 1) := by decide +kernel
theorem dX9_letDayGo_85 : decode cX9_letDayGo 85 = .ok (.ireturn, 1) := by decide +kernel
theorem dX9_letOneLive_0 : decode cX9_letOneLive 0 = .ok (.aload_n 0, 1) := by decide +kernel
theorem dX9_letOneLive_1 : decode cX9_letOneLive 1 = .ok (.getfield 12, 3) := by decide +kernel
theorem dX9_letOneLive_4 : decode cX9_letOneLive 4 = .ok (.getfield 141, 3) := by decide +kernel
theorem dX9_letOneLive_7 : decode cX9_letOneLive 7 = .ok (.iload_n 1, 1) := by decide +kernel
theorem dX9_letOneLive_8 : decode cX9_letOneLive 8 = .ok (.iaload, 1) := by decide +kernel
theorem dX9_letOneLive_9 : decode cX9_letOneLive 9 = .ok (.istore 4, 2) := by decide +kernel
theorem dX9_letOneLive_11 : decode cX9_letOneLive 11 = .ok (.aload_n 0, 1) := by decide +kernel
theorem dX9_letOneLive_12 : decode cX9_letOneLive 12 = .ok (.getfield 12, 3) := by decide +kernel
theorem dX9_letOneLive_15 : decode cX9_letOneLive 15 = .ok (.getfield 103, 3) := by decide +kernel
theorem dX9_letOneLive_18 : decode cX9_letOneLive 18 = .ok (.iload_n 1, 1) := by decide +kernel
theorem dX9_letOneLive_19 : decode cX9_letOneLive 19 = .ok (.iaload, 1) := by decide +kernel
theorem dX9_letOneLive_20 : decode cX9_letOneLive 20 = .ok (.istore 5, 2) := by decide +kernel
theorem dX9_letOneLive_22 : decode cX9_letOneLive 22 = .ok (.aload_n 0, 1) := by decide +kernel
theorem dX9_letOneLive_23 : decode cX9_letOneLive 23 = .ok (.iconst 1, 1) := by decide +kernel
theorem dX9_letOneLive_24 : decode cX9_letOneLive 24 = .ok (.iload 4, 2) := by decide +kernel
theorem dX9_letOneLive_26 : decode cX9_letOneLive 26 = .ok (.aload_n 0, 1) := by decide +kernel
theorem dX9_letOneLive_27 : decode cX9_letOneLive 27 = .ok (.getfield 47, 3) := by decide +kernel
theorem dX9_letOneLive_30 : decode cX9_letOneLive 30 = .ok (.iload 5, 2) := by decide +kernel
theorem dX9_letOneLive_32 : decode cX9_letOneLive 32 = .ok (.invokevirtual 89, 3) := by decide +kernel
theorem dX9_letOneLive_35 : decode cX9_letOneLive 35 = .ok (.istore 6, 2) := by decide +kernel
theorem dX9_letOneLive_37 : decode cX9_letOneLive 37 = .ok (.aload_n 0, 1) := by decide +kernel
theorem dX9_letOneLive_38 : decode cX9_letOneLive 38 = .ok (.getfield 12, 3) := by decide +kernel
theorem dX9_letOneLive_41 : decode cX9_letOneLive 41 = .ok (.getfield 141, 3) := by decide +kernel
theorem dX9_letOneLive_44 : decode cX9_letOneLive 44 = .ok (.iload_n 1, 1) := by decide +kernel
theorem dX9_letOneLive_45 : decode cX9_letOneLive 45 = .ok (.iload 4, 2) := by decide +kernel
theorem dX9_letOneLive_47 : decode cX9_letOneLive 47 = .ok (.iload_n 3, 1) := by decide +kernel
theorem dX9_letOneLive_48 : decode cX9_letOneLive 48 = .ok (.invokestatic 144, 3) := by decide +kernel
theorem dX9_letOneLive_51 : decode cX9_letOneLive 51 = .ok (.iastore, 1) := by decide +kernel
theorem dX9_letOneLive_52 : decode cX9_letOneLive 52 = .ok (.aload_n 0, 1) := by decide +kernel
theorem dX9_letOneLive_53 : decode cX9_letOneLive 53 = .ok (.getfield 12, 3) := by decide +kernel
theorem dX9_letOneLive_56 : decode cX9_letOneLive 56 = .ok (.getfield 103, 3) := by decide +kernel
theorem dX9_letOneLive_59 : decode cX9_letOneLive 59 = .ok (.iload_n 1, 1) := by decide +kernel
theorem dX9_letOneLive_60 : decode cX9_letOneLive 60 = .ok (.iload 5, 2) := by decide +kernel
theorem dX9_letOneLive_62 : decode cX9_letOneLive 62 = .ok (.iload 6, 2) := by decide +kernel
theorem dX9_letOneLive_64 : decode cX9_letOneLive 64 = .ok (.invokestatic 147, 3) := by decide +kernel
theorem dX9_letOneLive_67 : decode cX9_letOneLive 67 = .ok (.iastore, 1) := by decide +kernel
theorem dX9_letOneLive_68 : decode cX9_letOneLive 68 = .ok (.aload_n 0, 1) := by decide +kernel
theorem dX9_letOneLive_69 : decode cX9_letOneLive 69 = .ok (.getfield 12, 3) := by decide +kernel
theorem dX9_letOneLive_72 : decode cX9_letOneLive 72 = .ok (.iload_n 1, 1) := by decide +kernel
theorem dX9_letOneLive_73 : decode cX9_letOneLive 73 = .ok (.iload_n 2, 1) := by decide +kernel
theorem dX9_letOneLive_74 : decode cX9_letOneLive 74 = .ok (.invokevirtual 86, 3) := by decide +kernel
theorem dX9_letOneLive_77 : decode cX9_letOneLive 77 = .ok (.iconst 1, 1) := by decide +kernel
theorem dX9_letOneLive_78 : decode cX9_letOneLive 78 = .ok (.if_icmp .le 14, 3) := by decide +kernel
theorem dX9_letOneLive_81 : decode cX9_letOneLive 81 = .ok (.aload_n 0, 1) := by decide +kernel
theorem dX9_letOneLive_82 : decode cX9_letOneLive 82 = .ok (.aload_n 0, 1) := by decide +kernel
theorem dX9_letOneLive_83 : decode cX9_letOneLive 83 = .ok (.getfield 51, 3) := by decide +kernel
theorem dX9_letOneLive_86 : decode cX9_letOneLive 86 = .ok (.invokestatic 138, 3) := by decide +kernel
theorem dX9_letOneLive_89 : decode cX9_letOneLive 89 = .ok (.putfield 51, 3) := by decide +kernel
theorem dX9_letOneLive_92 : decode cX9_letOneLive 92 = .ok (.return_, 1) := by decide +kernel
theorem dX9_settlePromises_0 : decode cX9_settlePromises 0 = .ok (.iconst 0, 1) := by decide +kernel
theorem dX9_settlePromises_1 : decode cX9_settlePromises 1 = .ok (.istore_n 2, 1) := by decide +kernel
theorem dX9_settlePromises_2 : decode cX9_settlePromises 2 = .ok (.iload_n 2, 1) := by decide +kernel
theorem dX9_settlePromises_3 : decode cX9_settlePromises 3 = .ok (.aload_n 0, 1) := by decide +kernel
theorem dX9_settlePromises_4 : decode cX9_settlePromises 4 = .ok (.getfield 21, 3) := by decide +kernel
theorem dX9_settlePromises_7 : decode cX9_settlePromises 7 = .ok (.getfield 150, 3) := by decide +kernel
theorem dX9_settlePromises_10 : decode cX9_settlePromises 10 = .ok (.if_icmp .ge 65, 3) := by decide +kernel
theorem dX9_settlePromises_13 : decode cX9_settlePromises 13 = .ok (.aload_n 0, 1) := by decide +kernel
theorem dX9_settlePromises_14 : decode cX9_settlePromises 14 = .ok (.getfield 21, 3) := by decide +kernel
theorem dX9_settlePromises_17 : decode cX9_settlePromises 17 = .ok (.getfield 151, 3) := by decide +kernel
theorem dX9_settlePromises_20 : decode cX9_settlePromises 20 = .ok (.iload_n 2, 1) := by decide +kernel
theorem dX9_settlePromises_21 : decode cX9_settlePromises 21 = .ok (.iaload, 1) := by decide +kernel
theorem dX9_settlePromises_22 : decode cX9_settlePromises 22 = .ok (.iload_n 1, 1) := by decide +kernel
theorem dX9_settlePromises_23 : decode cX9_settlePromises 23 = .ok (.if_icmp .eq 6, 3) := by decide +kernel
theorem dX9_settlePromises_26 : decode cX9_settlePromises 26 = .ok (.goto 43, 3) := by decide +kernel
theorem dX9_settlePromises_29 : decode cX9_settlePromises 29 = .ok (.aload_n 0, 1) := by decide +kernel
theorem dX9_settlePromises_30 : decode cX9_settlePromises 30 = .ok (.getfield 21, 3) := by decide +kernel
theorem dX9_settlePromises_33 : decode cX9_settlePromises 33 = .ok (.iload_n 2, 1) := by decide +kernel
theorem dX9_settlePromises_34 : decode cX9_settlePromises 34 = .ok (.aload_n 0, 1) := by decide +kernel
theorem dX9_settlePromises_35 : decode cX9_settlePromises 35 = .ok (.getfield 12, 3) := by decide +kernel
theorem dX9_settlePromises_38 : decode cX9_settlePromises 38 = .ok (.invokevirtual 154, 3) := by decide +kernel
theorem dX9_settlePromises_41 : decode cX9_settlePromises 41 = .ok (.ifCond .eq 17, 3) := by decide +kernel
theorem dX9_settlePromises_44 : decode cX9_settlePromises 44 = .ok (.aload_n 0, 1) := by decide +kernel
theorem dX9_settlePromises_45 : decode cX9_settlePromises 45 = .ok (.aload_n 0, 1) := by decide +kernel
theorem dX9_settlePromises_46 : decode cX9_settlePromises 46 = .ok (.getfield 54, 3) := by decide +kernel
theorem dX9_settlePromises_49 : decode cX9_settlePromises 49 = .ok (.invokestatic 138, 3) := by decide +kernel
theorem dX9_settlePromises_52 : decode cX9_settlePromises 52 = .ok (.putfield 54, 3) := by decide +kernel
theorem dX9_settlePromises_55 : decode cX9_settlePromises 55 = .ok (.goto 14, 3) := by decide +kernel
theorem dX9_settlePromises_58 : decode cX9_settlePromises 58 = .ok (.aload_n 0, 1) := by decide +kernel
theorem dX9_settlePromises_59 : decode cX9_settlePromises 59 = .ok (.aload_n 0, 1) := by decide +kernel
theorem dX9_settlePromises_60 : decode cX9_settlePromises 60 = .ok (.getfield 57, 3) := by decide +kernel
theorem dX9_settlePromises_63 : decode cX9_settlePromises 63 = .ok (.invokestatic 138, 3) := by decide +kernel
theorem dX9_settlePromises_66 : decode cX9_settlePromises 66 = .ok (.putfield 57, 3) := by decide +kernel
theorem dX9_settlePromises_69 : decode cX9_settlePromises 69 = .ok (.iinc 2 1, 3) := by decide +kernel
theorem dX9_settlePromises_72 : decode cX9_settlePromises 72 = .ok (.goto (-70), 3) := by decide +kernel
theorem dX9_settlePromises_75 : decode cX9_settlePromises 75 = .ok (.return_, 1) := by decide +kernel
theorem dX9_older_0 : decode cX9_older 0 = .ok (.sipush 9999, 3) := by decide +kernel
theorem dX9_older_3 : decode cX9_older 3 = .ok (.iload_n 0, 1) := by decide +kernel
theorem dX9_older_4 : decode cX9_older 4 = .ok (.iload_n 1, 1) := by decide +kernel
theorem dX9_older_5 : decode cX9_older 5 = .ok (.iadd, 1) := by decide +kernel
theorem dX9_older_6 : decode cX9_older 6 = .ok (.invokestatic 78, 3) := by decide +kernel
theorem dX9_older_9 : decode cX9_older 9 = .ok (.ireturn, 1) := by decide +kernel
theorem dX9_poorer_0 : decode cX9_poorer 0 = .ok (.iconst 0, 1) := by decide +kernel
theorem dX9_poorer_1 : decode cX9_poorer 1 = .ok (.iload_n 0, 1) := by decide +kernel
theorem dX9_poorer_2 : decode cX9_poorer 2 = .ok (.iload_n 1, 1) := by decide +kernel
theorem dX9_poorer_3 : decode cX9_poorer 3 = .ok (.isub, 1) := by decide +kernel
theorem dX9_poorer_4 : decode cX9_poorer 4 = .ok (.invokestatic 83, 3) := by decide +kernel
theorem dX9_poorer_7 : decode cX9_poorer 7 = .ok (.ireturn, 1) := by decide +kernel
theorem dX9_oneMore_0 : decode cX9_oneMore 0 = .ok (.sipush 9999, 3) := by decide +kernel
theorem dX9_oneMore_3 : decode cX9_oneMore 3 = .ok (.iload_n 0, 1) := by decide +kernel
theorem dX9_oneMore_4 : decode cX9_oneMore 4 = .ok (.iconst 1, 1) := by decide +kernel
theorem dX9_oneMore_5 : decode cX9_oneMore 5 = .ok (.iadd, 1) := by decide +kernel
theorem dX9_oneMore_6 : decode cX9_oneMore 6 = .ok (.invokestatic 78, 3) := by decide +kernel
theorem dX9_oneMore_9 : decode cX9_oneMore 9 = .ok (.ireturn, 1) := by decide +kernel
theorem dX9_copyFrom_0 : decode cX9_copyFrom 0 = .ok (.aload_n 0, 1) := by decide +kernel
theorem dX9_copyFrom_1 : decode cX9_copyFrom 1 = .ok (.getfield 12, 3) := by decide +kernel
theorem dX9_copyFrom_4 : decode cX9_copyFrom 4 = .ok (.aload_n 1, 1) := by decide +kernel
theorem dX9_copyFrom_5 : decode cX9_copyFrom 5 = .ok (.getfield 12, 3) := by decide +kernel
theorem dX9_copyFrom_8 : decode cX9_copyFrom 8 = .ok (.invokevirtual 158, 3) := by decide +kernel
theorem dX9_copyFrom_11 : decode cX9_copyFrom 11 = .ok (.aload_n 0, 1) := by decide +kernel
theorem dX9_copyFrom_12 : decode cX9_copyFrom 12 = .ok (.getfield 21, 3) := by decide +kernel
theorem dX9_copyFrom_15 : decode cX9_copyFrom 15 = .ok (.aload_n 1, 1) := by decide +kernel
theorem dX9_copyFrom_16 : decode cX9_copyFrom 16 = .ok (.getfield 21, 3) := by decide +kernel
theorem dX9_copyFrom_19 : decode cX9_copyFrom 19 = .ok (.invokevirtual 162, 3) := by decide +kernel
theorem dX9_copyFrom_22 : decode cX9_copyFrom 22 = .ok (.aload_n 0, 1) := by decide +kernel
theorem dX9_copyFrom_23 : decode cX9_copyFrom 23 = .ok (.getfield 28, 3) := by decide +kernel
theorem dX9_copyFrom_26 : decode cX9_copyFrom 26 = .ok (.getfield 165, 3) := by decide +kernel
theorem dX9_copyFrom_29 : decode cX9_copyFrom 29 = .ok (.aload_n 1, 1) := by decide +kernel
theorem dX9_copyFrom_30 : decode cX9_copyFrom 30 = .ok (.getfield 28, 3) := by decide +kernel
theorem dX9_copyFrom_33 : decode cX9_copyFrom 33 = .ok (.getfield 165, 3) := by decide +kernel
theorem dX9_copyFrom_36 : decode cX9_copyFrom 36 = .ok (.invokevirtual 168, 3) := by decide +kernel
theorem dX9_copyFrom_39 : decode cX9_copyFrom 39 = .ok (.aload_n 0, 1) := by decide +kernel
theorem dX9_copyFrom_40 : decode cX9_copyFrom 40 = .ok (.getfield 32, 3) := by decide +kernel
theorem dX9_copyFrom_43 : decode cX9_copyFrom 43 = .ok (.getfield 165, 3) := by decide +kernel
theorem dX9_copyFrom_46 : decode cX9_copyFrom 46 = .ok (.aload_n 1, 1) := by decide +kernel
theorem dX9_copyFrom_47 : decode cX9_copyFrom 47 = .ok (.getfield 32, 3) := by decide +kernel
theorem dX9_copyFrom_50 : decode cX9_copyFrom 50 = .ok (.getfield 165, 3) := by decide +kernel
theorem dX9_copyFrom_53 : decode cX9_copyFrom 53 = .ok (.invokevirtual 168, 3) := by decide +kernel
theorem dX9_copyFrom_56 : decode cX9_copyFrom 56 = .ok (.aload_n 0, 1) := by decide +kernel
theorem dX9_copyFrom_57 : decode cX9_copyFrom 57 = .ok (.getfield 40, 3) := by decide +kernel
theorem dX9_copyFrom_60 : decode cX9_copyFrom 60 = .ok (.aload_n 1, 1) := by decide +kernel
theorem dX9_copyFrom_61 : decode cX9_copyFrom 61 = .ok (.getfield 40, 3) := by decide +kernel
theorem dX9_copyFrom_64 : decode cX9_copyFrom 64 = .ok (.invokevirtual 168, 3) := by decide +kernel
theorem dX9_copyFrom_67 : decode cX9_copyFrom 67 = .ok (.aload_n 0, 1) := by decide +kernel
theorem dX9_copyFrom_68 : decode cX9_copyFrom 68 = .ok (.getfield 44, 3) := by decide +kernel
theorem dX9_copyFrom_71 : decode cX9_copyFrom 71 = .ok (.aload_n 1, 1) := by decide +kernel
theorem dX9_copyFrom_72 : decode cX9_copyFrom 72 = .ok (.getfield 44, 3) := by decide +kernel
theorem dX9_copyFrom_75 : decode cX9_copyFrom 75 = .ok (.invokevirtual 168, 3) := by decide +kernel
theorem dX9_copyFrom_78 : decode cX9_copyFrom 78 = .ok (.aload_n 0, 1) := by decide +kernel
theorem dX9_copyFrom_79 : decode cX9_copyFrom 79 = .ok (.aload_n 1, 1) := by decide +kernel
theorem dX9_copyFrom_80 : decode cX9_copyFrom 80 = .ok (.getfield 47, 3) := by decide +kernel
theorem dX9_copyFrom_83 : decode cX9_copyFrom 83 = .ok (.putfield 47, 3) := by decide +kernel
theorem dX9_copyFrom_86 : decode cX9_copyFrom 86 = .ok (.aload_n 0, 1) := by decide +kernel
theorem dX9_copyFrom_87 : decode cX9_copyFrom 87 = .ok (.aload_n 1, 1) := by decide +kernel
theorem dX9_copyFrom_88 : decode cX9_copyFrom 88 = .ok (.getfield 51, 3) := by decide +kernel
theorem dX9_copyFrom_91 : decode cX9_copyFrom 91 = .ok (.putfield 51, 3) := by decide +kernel
theorem dX9_copyFrom_94 : decode cX9_copyFrom 94 = .ok (.aload_n 0, 1) := by decide +kernel
theorem dX9_copyFrom_95 : decode cX9_copyFrom 95 = .ok (.aload_n 1, 1) := by decide +kernel
theorem dX9_copyFrom_96 : decode cX9_copyFrom 96 = .ok (.getfield 54, 3) := by decide +kernel
theorem dX9_copyFrom_99 : decode cX9_copyFrom 99 = .ok (.putfield 54, 3) := by decide +kernel
theorem dX9_copyFrom_102 : decode cX9_copyFrom 102 = .ok (.aload_n 0, 1) := by decide +kernel
theorem dX9_copyFrom_103 : decode cX9_copyFrom 103 = .ok (.aload_n 1, 1) := by decide +kernel
theorem dX9_copyFrom_104 : decode cX9_copyFrom 104 = .ok (.getfield 57, 3) := by decide +kernel
theorem dX9_copyFrom_107 : decode cX9_copyFrom 107 = .ok (.putfield 57, 3) := by decide +kernel
theorem dX9_copyFrom_110 : decode cX9_copyFrom 110 = .ok (.aload_n 0, 1) := by decide +kernel
theorem dX9_copyFrom_111 : decode cX9_copyFrom 111 = .ok (.aload_n 1, 1) := by decide +kernel
theorem dX9_copyFrom_112 : decode cX9_copyFrom 112 = .ok (.getfield 60, 3) := by decide +kernel
theorem dX9_copyFrom_115 : decode cX9_copyFrom 115 = .ok (.putfield 60, 3) := by decide +kernel
theorem dX9_copyFrom_118 : decode cX9_copyFrom 118 = .ok (.aload_n 0, 1) := by decide +kernel
theorem dX9_copyFrom_119 : decode cX9_copyFrom 119 = .ok (.aload_n 1, 1) := by decide +kernel
theorem dX9_copyFrom_120 : decode cX9_copyFrom 120 = .ok (.getfield 63, 3) := by decide +kernel
theorem dX9_copyFrom_123 : decode cX9_copyFrom 123 = .ok (.putfield 63, 3) := by decide +kernel
theorem dX9_copyFrom_126 : decode cX9_copyFrom 126 = .ok (.return_, 1) := by decide +kernel
theorem dJ6_bitCount_0f7a4_0 : decode cJ6_bitCount_0f7a4 0 = .ok (.iload_n 0, 1) := by decide +kernel
theorem dJ6_bitCount_0f7a4_1 : decode cJ6_bitCount_0f7a4 1 = .ok (.iload_n 0, 1) := by decide +kernel
theorem dJ6_bitCount_0f7a4_2 : decode cJ6_bitCount_0f7a4 2 = .ok (.iconst 1, 1) := by decide +kernel
theorem dJ6_bitCount_0f7a4_3 : decode cJ6_bitCount_0f7a4 3 = .ok (.iushr, 1) := by decide +kernel
theorem dJ6_bitCount_0f7a4_4 : decode cJ6_bitCount_0f7a4 4 = .ok (.ldc_w 265, 3) := by decide +kernel
theorem dJ6_bitCount_0f7a4_7 : decode cJ6_bitCount_0f7a4 7 = .ok (.iand, 1) := by decide +kernel
theorem dJ6_bitCount_0f7a4_8 : decode cJ6_bitCount_0f7a4 8 = .ok (.isub, 1) := by decide +kernel
theorem dJ6_bitCount_0f7a4_9 : decode cJ6_bitCount_0f7a4 9 = .ok (.istore_n 0, 1) := by decide +kernel
theorem dJ6_bitCount_0f7a4_10 : decode cJ6_bitCount_0f7a4 10 = .ok (.iload_n 0, 1) := by decide +kernel
theorem dJ6_bitCount_0f7a4_11 : decode cJ6_bitCount_0f7a4 11 = .ok (.ldc_w 266, 3) := by decide +kernel
theorem dJ6_bitCount_0f7a4_14 : decode cJ6_bitCount_0f7a4 14 = .ok (.iand, 1) := by decide +kernel
theorem dJ6_bitCount_0f7a4_15 : decode cJ6_bitCount_0f7a4 15 = .ok (.iload_n 0, 1) := by decide +kernel
theorem dJ6_bitCount_0f7a4_16 : decode cJ6_bitCount_0f7a4 16 = .ok (.iconst 2, 1) := by decide +kernel
theorem dJ6_bitCount_0f7a4_17 : decode cJ6_bitCount_0f7a4 17 = .ok (.iushr, 1) := by decide +kernel
theorem dJ6_bitCount_0f7a4_18 : decode cJ6_bitCount_0f7a4 18 = .ok (.ldc_w 266, 3) := by decide +kernel
theorem dJ6_bitCount_0f7a4_21 : decode cJ6_bitCount_0f7a4 21 = .ok (.iand, 1) := by decide +kernel
theorem dJ6_bitCount_0f7a4_22 : decode cJ6_bitCount_0f7a4 22 = .ok (.iadd, 1) := by decide +kernel
theorem dJ6_bitCount_0f7a4_23 : decode cJ6_bitCount_0f7a4 23 = .ok (.istore_n 0, 1) := by decide +kernel
theorem dJ6_bitCount_0f7a4_24 : decode cJ6_bitCount_0f7a4 24 = .ok (.iload_n 0, 1) := by decide +kernel
theorem dJ6_bitCount_0f7a4_25 : decode cJ6_bitCount_0f7a4 25 = .ok (.iload_n 0, 1) := by decide +kernel
theorem dJ6_bitCount_0f7a4_26 : decode cJ6_bitCount_0f7a4 26 = .ok (.iconst 4, 1) := by decide +kernel
theorem dJ6_bitCount_0f7a4_27 : decode cJ6_bitCount_0f7a4 27 = .ok (.iushr, 1) := by decide +kernel
theorem dJ6_bitCount_0f7a4_28 : decode cJ6_bitCount_0f7a4 28 = .ok (.iadd, 1) := by decide +kernel
theorem dJ6_bitCount_0f7a4_29 : decode cJ6_bitCount_0f7a4 29 = .ok (.ldc_w 267, 3) := by decide +kernel
theorem dJ6_bitCount_0f7a4_32 : decode cJ6_bitCount_0f7a4 32 = .ok (.iand, 1) := by decide +kernel
theorem dJ6_bitCount_0f7a4_33 : decode cJ6_bitCount_0f7a4 33 = .ok (.istore_n 0, 1) := by decide +kernel
theorem dJ6_bitCount_0f7a4_34 : decode cJ6_bitCount_0f7a4 34 = .ok (.iload_n 0, 1) := by decide +kernel
theorem dJ6_bitCount_0f7a4_35 : decode cJ6_bitCount_0f7a4 35 = .ok (.iload_n 0, 1) := by decide +kernel
theorem dJ6_bitCount_0f7a4_36 : decode cJ6_bitCount_0f7a4 36 = .ok (.bipush 8, 2) := by decide +kernel
theorem dJ6_bitCount_0f7a4_38 : decode cJ6_bitCount_0f7a4 38 = .ok (.iushr, 1) := by decide +kernel
theorem dJ6_bitCount_0f7a4_39 : decode cJ6_bitCount_0f7a4 39 = .ok (.iadd, 1) := by decide +kernel
theorem dJ6_bitCount_0f7a4_40 : decode cJ6_bitCount_0f7a4 40 = .ok (.istore_n 0, 1) := by decide +kernel
theorem dJ6_bitCount_0f7a4_41 : decode cJ6_bitCount_0f7a4 41 = .ok (.iload_n 0, 1) := by decide +kernel
theorem dJ6_bitCount_0f7a4_42 : decode cJ6_bitCount_0f7a4 42 = .ok (.iload_n 0, 1) := by decide +kernel
theorem dJ6_bitCount_0f7a4_43 : decode cJ6_bitCount_0f7a4 43 = .ok (.bipush 16, 2) := by decide +kernel
theorem dJ6_bitCount_0f7a4_45 : decode cJ6_bitCount_0f7a4 45 = .ok (.iushr, 1) := by decide +kernel
theorem dJ6_bitCount_0f7a4_46 : decode cJ6_bitCount_0f7a4 46 = .ok (.iadd, 1) := by decide +kernel
theorem dJ6_bitCount_0f7a4_47 : decode cJ6_bitCount_0f7a4 47 = .ok (.istore_n 0, 1) := by decide +kernel
theorem dJ6_bitCount_0f7a4_48 : decode cJ6_bitCount_0f7a4 48 = .ok (.iload_n 0, 1) := by decide +kernel
theorem dJ6_bitCount_0f7a4_49 : decode cJ6_bitCount_0f7a4 49 = .ok (.bipush 63, 2) := by decide +kernel
theorem dJ6_bitCount_0f7a4_51 : decode cJ6_bitCount_0f7a4 51 = .ok (.iand, 1) := by decide +kernel
theorem dJ6_bitCount_0f7a4_52 : decode cJ6_bitCount_0f7a4 52 = .ok (.ireturn, 1) := by decide +kernel
theorem dJ9_max_7cf53_0 : decode cJ9_max_7cf53 0 = .ok (.iload_n 0, 1) := by decide +kernel
theorem dJ9_max_7cf53_1 : decode cJ9_max_7cf53 1 = .ok (.iload_n 1, 1) := by decide +kernel
theorem dJ9_max_7cf53_2 : decode cJ9_max_7cf53 2 = .ok (.if_icmp .lt 7, 3) := by decide +kernel
theorem dJ9_max_7cf53_5 : decode cJ9_max_7cf53 5 = .ok (.iload_n 0, 1) := by decide +kernel
theorem dJ9_max_7cf53_6 : decode cJ9_max_7cf53 6 = .ok (.goto 4, 3) := by decide +kernel
theorem dJ9_max_7cf53_9 : decode cJ9_max_7cf53 9 = .ok (.iload_n 1, 1) := by decide +kernel
theorem dJ9_max_7cf53_10 : decode cJ9_max_7cf53 10 = .ok (.ireturn, 1) := by decide +kernel
theorem dJ9_min_7cf53_0 : decode cJ9_min_7cf53 0 = .ok (.iload_n 0, 1) := by decide +kernel
theorem dJ9_min_7cf53_1 : decode cJ9_min_7cf53 1 = .ok (.iload_n 1, 1) := by decide +kernel
theorem dJ9_min_7cf53_2 : decode cJ9_min_7cf53 2 = .ok (.if_icmp .gt 7, 3) := by decide +kernel
theorem dJ9_min_7cf53_5 : decode cJ9_min_7cf53 5 = .ok (.iload_n 0, 1) := by decide +kernel
theorem dJ9_min_7cf53_6 : decode cJ9_min_7cf53 6 = .ok (.goto 4, 3) := by decide +kernel
theorem dJ9_min_7cf53_9 : decode cJ9_min_7cf53 9 = .ok (.iload_n 1, 1) := by decide +kernel
theorem dJ9_min_7cf53_10 : decode cJ9_min_7cf53 10 = .ok (.ireturn, 1) := by decide +kernel
end
section
/-! A WORLD OF CELLS THAT NEVER GROWS: its cells by number, what each holds an int; a method's run over it (WP), a call (Call). -/
abbrev Sg : Type := Nat → Nat → Int32
abbrev Shp : Type := List (Nat ⊕ (Nat × List (Option Nat)))
abbrev KE : Type := Launch × va_G × (Nat → Nat) × ClassId
def k_cv (ad : Nat → Nat) (v : Value) : Value := match v with
  | .ref j => .ref (ad j)
  | v => v
theorem k_cv_cat (ad : Nat → Nat) (v : Value) : (k_cv ad v).category = v.category := by cases v <;> rfl
theorem k_cats (ad : Nat → Nat) (st : List Value) : ((st.map (k_cv ad)).map fun v => v.category).sum = (st.map fun v => v.category).sum := by
  rw [List.map_map]
  congr 1
  apply List.map_congr_left
  intro v _
  exact k_cv_cat ad v
def k_fv (ad : Nat → Nat) (row : Nat → Int32) : Nat → List (Option Nat) → List Value
  | _, [] => []
  | k, none :: r => .int (row k) :: k_fv ad row (k + 1) r
  | k, some j :: r => .ref (ad j) :: k_fv ad row (k + 1) r
def k_f1 (ad : Nat → Nat) (row : Nat → Int32) (k : Nat) (o : Option Nat) : Value := match o with
  | none => .int (row k)
  | some j => .ref (ad j)
theorem k_fv_get (ad : Nat → Nat) (row : Nat → Int32) : ∀ (fs : List (Option Nat)) (s k : Nat), (k_fv ad row s fs)[k]? = fs[k]?.map (k_f1 ad row (s + k))
  | [], s, k => by simp [k_fv]
  | o :: r, s, 0 => by cases o <;> simp [k_fv, k_f1]
  | o :: r, s, k + 1 => by
    have h := k_fv_get ad row r (s + 1) k
    rw [show s + 1 + k = s + (k + 1) by omega] at h
    cases o <;> simpa [k_fv] using h
theorem k_fv_len (ad : Nat → Nat) (row : Nat → Int32) : ∀ (fs : List (Option Nat)) (s : Nat), (k_fv ad row s fs).length = fs.length
  | [], s => rfl
  | none :: r, s => by simp [k_fv, k_fv_len ad row r]
  | some j :: r, s => by simp [k_fv, k_fv_len ad row r]
theorem k_fv_set {ad : Nat → Nat} {row : Nat → Int32} {fs : List (Option Nat)} {k : Nat} {v : Int32} (hk : fs[k]? = some none) : (k_fv ad row 0 fs).set k (.int v) = k_fv ad (upd row k v) 0 fs := by
  have hl := (List.getElem?_eq_some_iff.mp hk).1
  apply List.ext_getElem?
  intro j
  rw [List.getElem?_set, k_fv_get, k_fv_get, k_fv_len, Nat.zero_add]
  by_cases h : k = j
  · subst h
    rw [if_pos rfl, if_pos hl, hk]
    simp [k_f1, upd]
  · rw [if_neg h]
    cases fs[j]? with
    | none => rfl
    | some o =>
      cases o with
      | none => simp [k_f1, upd, Ne.symm h]
      | some t => rfl
def k_en (ad : Nat → Nat) (cI : ClassId) (row : Nat → Int32) (c : Nat ⊕ (Nat × List (Option Nat))) : va_E := match c with
  | .inl n => .inl (cI, n, .inl row)
  | .inr o => .inr (o.1, k_fv ad row 0 o.2)
def k_w (E : KE) (S : Shp) (σ : Sg) : va_W := S.zipIdx.map (fun q => (E.2.2.1 q.2, k_en E.2.2.1 E.2.2.2 (σ q.2) q.1))
theorem k_w_get (E : KE) (S : Shp) (σ : Sg) (i : Nat) : (k_w E S σ)[i]? = S[i]?.map (fun c => (E.2.2.1 i, k_en E.2.2.1 E.2.2.2 (σ i) c)) := by
  simp [k_w, List.getElem?_zipIdx, Function.comp_def]
def k_put (σ : Sg) (i : Nat) (row : Nat → Int32) : Sg := fun j => if j = i then row else σ j
theorem k_w_set {E : KE} {S : Shp} {σ : Sg} {i : Nat} {c : Nat ⊕ (Nat × List (Option Nat))} (hi : S[i]? = some c) (row : Nat → Int32) : (k_w E S σ).set i (E.2.2.1 i, k_en E.2.2.1 E.2.2.2 row c) = k_w E S (k_put σ i row) := by
  have hl : i < (k_w E S σ).length := by
    have h1 := (List.getElem?_eq_some_iff.mp hi).1
    simpa [k_w] using h1
  apply List.ext_getElem?
  intro j
  rw [List.getElem?_set, k_w_get, k_w_get]
  by_cases h : i = j
  · subst h
    rw [if_pos rfl, if_pos hl, hi]
    simp [k_put]
  · rw [if_neg h]
    simp [k_put, Ne.symm h]
theorem k_wD {A : Nat → Prop} {E : KE} {S : Shp} {σ τ : Sg} (h : va_D A (k_w E S σ)) : va_D A (k_w E S τ) := by
  have key : ∀ (k : Nat) (q : Nat × va_E), (k_w E S τ)[k]? = some q → ∃ q0, (k_w E S σ)[k]? = some q0 ∧ q0.1 = q.1 := by
    intro k q hk
    rw [k_w_get] at hk
    cases hs : S[k]? with
    | none => rw [hs] at hk; cases hk
    | some c =>
      rw [hs] at hk
      cases hk
      exact ⟨(E.2.2.1 k, k_en E.2.2.1 E.2.2.2 (σ k) c), by rw [k_w_get, hs]; rfl, rfl⟩
  refine ⟨fun i j x y hi hj hxy => ?_, fun k q hk => ?_⟩
  · obtain ⟨x0, h1, h2⟩ := key i x hi
    obtain ⟨y0, h3, h4⟩ := key j y hj
    exact h.1 i j x0 y0 h1 h3 (h2.trans (hxy.trans h4.symm))
  · obtain ⟨q0, h1, h2⟩ := key k q hk
    rw [← h2]
    exact h.2 k q0 h1
def k_A (E : KE) (S : Shp) : Nat → Prop := fun q => ∃ i, i < S.length ∧ q = E.2.2.1 i
/-- the three tables that nobody writes -/
def k_tab (k : Nat) : List Int32 := match k with
  | 0 => [0, 0, 0, 0, 1, 2, 0]
  | 1 => [10, 11, 12, 13, 20, 0, 0, 21, 0, 30, 0, 0, 0, 0, 40, 0, 50, 0, 51, 0, 0, 60, 0, 0, 70, 71, 0, 0]
  | _ => [100, 119, 104, 97, 116, 109]
def k_tv (k j : Nat) : Int32 := (k_tab k).getD j 0
def k_stat (ad : Nat → Nat) (A : Nat → Prop) (U : State) (H : Heap) : Prop :=
  (va_Z "SoldDays$Kinds" "ABOVE" "[I" (.ref (ad 1000)) A U H ∧ va_T .int (ad 1000) 7 (fun j => .int (k_tv 0 j)) A U H) ∧
  (va_Z "SoldDays$Kinds" "BODIES" "[I" (.ref (ad 1001)) A U H ∧ va_T .int (ad 1001) 28 (fun j => .int (k_tv 1 j)) A U H) ∧
  (va_Z "SoldDays$Reader" "NAMES" "[C" (.ref (ad 1002)) A U H ∧ va_T .char (ad 1002) 6 (fun j => .int (k_tv 2 j)) A U H)
theorem k_stat.moved {ad : Nat → Nat} {A : Nat → Prop} {u U : State} {H : Heap} (hvm : u.vm.Alike U.vm) (h : k_stat ad A u H) : k_stat ad A U H :=
  ⟨⟨h.1.1.moved hvm, h.1.2.moved hvm⟩, ⟨h.2.1.1.moved hvm, h.2.1.2.moved hvm⟩, ⟨h.2.2.1.moved hvm, h.2.2.2.moved hvm⟩⟩
theorem k_stat.kept {ad : Nat → Nat} {A : Nat → Prop} {U : State} {H H1 : Heap} (h : k_stat ad A U H) (hq : ∀ a : Nat, a < H.size → ¬ A a → H1[a]? = H[a]?) : k_stat ad A U H1 :=
  ⟨⟨h.1.1.kept hq, h.1.2.kept hq⟩, ⟨h.2.1.1.kept hq, h.2.1.2.kept hq⟩, ⟨h.2.2.1.kept hq, h.2.2.2.kept hq⟩⟩
theorem k_stat.narrow {ad : Nat → Nat} {A B : Nat → Prop} {U : State} {H : Heap} (h : k_stat ad A U H) (hAB : ∀ q, B q → A q) : k_stat ad B U H :=
  ⟨⟨h.1.1.narrow hAB, h.1.2.narrow hAB⟩, ⟨h.2.1.1.narrow hAB, h.2.1.2.narrow hAB⟩, ⟨h.2.2.1.narrow hAB, h.2.2.2.narrow hAB⟩⟩
def k_B (E : KE) (S : Shp) (σ : Sg) (U : State) : Prop :=
  va_P E.2.1 vwCl (k_w E S σ) U.heap ∧ va_K E.2.1 vwCl [(E.2.2.2, .int)] U ∧ va_D (k_A E S) (k_w E S σ) ∧ k_stat E.2.2.1 (k_A E S) U U.heap
def k_gw : List Cond := lw_tbl.filter goodWord
theorem k_in {w : Cond} (h : w ∈ lw_tbl) (g : goodWord w = true) : w ∈ k_gw := List.mem_filter.mpr ⟨h, g⟩
theorem k_at (i : Nat) {w : Cond} (h : lw_tbl[i]? = some w) (g : goodWord w = true) : w ∈ k_gw := k_in (List.mem_of_getElem? h) g
abbrev k_ws (M : KM) : List Cond := .code M.1 M.2.1 M.2.2.1 M.2.2.2 :: k_gw
def k_rm (d : Nat) : Room := { frames := d + 1, cells := 0, slots := 0, locals := 40 * (d + 1) + 20 }
def k_Pc (E : KE) (S : Shp) (vs : List Value) (σ : Sg) : Array Value → State → Prop := va_Pc (vs.map (k_cv E.2.2.1)) (k_B E S σ)
def k_Qc (E : KE) (S : Shp) (Q : Option Value → Sg → Prop) : Array Value → State → Outcome → State → Prop := fun _ st oc t =>
  (∃ (v : Option Value) (σ' : Sg), oc = .returned (v.map (k_cv E.2.2.1)) ∧ Q v σ' ∧ k_B E S σ' t) ∧ va_F (k_A E S) st t
def Call (E : KE) (S : Shp) (d : Nat) (M : KM) (vs : List Value) (σ : Sg) (Q : Option Value → Sg → Prop) : Prop :=
  Met E.1 M.1 (k_ws M) (k_rm d) (k_Pc E S vs σ) (k_Qc E S Q) 0 0 (k_A E S)
def k_F (E : KE) (S : Shp) (M : KM) (p : Program) (s : State) (m : MethodId) (args : Array Value) (meth : Method) (c : Code) : Prop :=
  p.tables.exec = Jvm.exec ∧ c.code = M.2.1 ∧ c.maxLocals = M.2.2.1 ∧ meth.sig.returnType = M.2.2.2 ∧ meth.locks = false ∧ s.vm.findClass M.1.cls = some m.cls ∧ (∀ w ∈ k_ws M, w.before args s = true) ∧
  va_K E.2.1 vwCl [(E.2.2.2, .int)] s ∧ va_D (k_A E S) (k_w E S (fun _ _ => 0)) ∧ k_stat E.2.2.1 (k_A E S) s s.heap
/-- the locals: those that are known -/
def k_as (ad : Nat → Nat) (Lo : List (Option Value)) : List (Nat × Value) := Lo.zipIdx.filterMap (fun q => q.1.map (fun v => (q.2, k_cv ad v)))
theorem k_as_mem {ad : Nat → Nat} {Lo : List (Option Value)} {i : Nat} {w : Value} : (i, w) ∈ k_as ad Lo ↔ ∃ v, Lo[i]? = some (some v) ∧ w = k_cv ad v := by
  simp only [k_as, List.mem_filterMap, Option.map_eq_some_iff]
  constructor
  · rintro ⟨⟨o, j⟩, h1, v, h2, h3⟩
    cases h3
    rw [List.mem_zipIdx_iff_getElem?] at h1
    dsimp only at h1 h2
    exact ⟨v, by rw [h1, h2], rfl⟩
  · rintro ⟨v, h1, rfl⟩
    exact ⟨(some v, i), by rw [List.mem_zipIdx_iff_getElem?]; exact h1, v, rfl, rfl⟩
def WP (E : KE) (S : Shp) (M : KM) (d : Nat) (pc : Nat) (Lo : List (Option Value)) (st : List Value) (σ : Sg) (Q : Option Value → Sg → Prop) : Prop :=
  ∀ (p : Program) (e : Env) (s : State) (m : MethodId) (args : Array Value) (below : List Frame) (meth : Method) (c : Code) (H : Heap) (locs : List Loc) (ls : Array Slot),
    k_F E S M p s m args meth c → va_P E.2.1 vwCl (k_w E S σ) H → va_S (k_A E S) s.heap H locs → lv_has ls M.2.2.1 (k_as E.2.2.1 Lo) →
    W p E.1 e (k_rm d) s m args below meth c H locs 0 0 (MQ below (k_Qc E S Q) args s 0 0 (k_A E S)) (F0 m pc ls (st.map (k_cv E.2.2.1)))
def k_ex : List Value → List (Option Value)
  | [] => []
  | .long x :: r => some (.long x) :: none :: k_ex r
  | .double x :: r => some (.double x) :: none :: k_ex r
  | v :: r => some v :: k_ex r
def k_lo (n : Nat) (vs : List Value) : List (Option Value) := k_ex vs ++ List.replicate (n - (k_ex vs).length) none
theorem k_ex_args (ad : Nat → Nat) : ∀ (vs : List Value) (s i : Nat) (v : Value), (k_ex vs)[i]? = some (some v) → (s + i, k_cv ad v) ∈ lv_args s (vs.map (k_cv ad))
  | [], s, i, v, h => by simp [k_ex] at h
  | w :: r, s, i, v, h => by
    have ih := k_ex_args ad r
    have one : k_ex (w :: r) = some w :: k_ex r → w.category = 1 → (s + i, k_cv ad v) ∈ lv_args s ((w :: r).map (k_cv ad)) := by
      intro e hc
      rw [e] at h
      have hc2 : ¬ (k_cv ad w).category = 2 := by rw [k_cv_cat, hc]; decide
      show _ ∈ (s, k_cv ad w) :: lv_args (if (k_cv ad w).category = 2 then s + 2 else s + 1) (r.map (k_cv ad))
      rw [if_neg hc2]
      cases i with
      | zero => cases h; exact List.mem_cons_self
      | succ i =>
        have := ih (s + 1) i v h
        rw [show s + 1 + i = s + (i + 1) by omega] at this
        exact List.mem_cons_of_mem _ this
    have two : k_ex (w :: r) = some w :: none :: k_ex r → w.category = 2 → (s + i, k_cv ad v) ∈ lv_args s ((w :: r).map (k_cv ad)) := by
      intro e hc
      rw [e] at h
      have hc2 : (k_cv ad w).category = 2 := by rw [k_cv_cat, hc]
      show _ ∈ (s, k_cv ad w) :: lv_args (if (k_cv ad w).category = 2 then s + 2 else s + 1) (r.map (k_cv ad))
      rw [if_pos hc2]
      match i, h with
      | 0, h => cases h; exact List.mem_cons_self
      | 1, h => cases h
      | i + 2, h =>
        have := ih (s + 2) i v h
        rw [show s + 2 + i = s + (i + 2) by omega] at this
        exact List.mem_cons_of_mem _ this
    cases w with
    | long x => exact two rfl rfl
    | double x => exact two rfl rfl
    | int x => exact one rfl rfl
    | float x => exact one rfl rfl
    | null => exact one rfl rfl
    | ref x => exact one rfl rfl
    | retAddr x => exact one rfl rfl
theorem k_sl_cons (x : Value) (l : List Value) : lg_sl (x :: l) = (if x.category = 2 then [.val x, .second] else [.val x]) ++ lg_sl l := by simp [lg_sl]
theorem k_ex_len (ad : Nat → Nat) : ∀ (vs : List Value), (lg_sl (vs.map (k_cv ad))).length = (k_ex vs).length
  | [] => rfl
  | w :: r => by
    have ih := k_ex_len ad r
    rw [List.map_cons, k_sl_cons, List.length_append, ih]
    cases w <;> simp [k_cv, k_ex, Value.category] <;> omega
theorem wp_enter {E : KE} {S : Shp} {M : KM} {d : Nat} {vs : List Value} {σ : Sg} {Q : Option Value → Sg → Prop} {Lo : List (Option Value)} (hp : plainName M.1.cls = true) (hn : (k_ex vs).length ≤ M.2.2.1) (hLo : k_lo M.2.2.1 vs = Lo) (h : WP E S M d 0 Lo [] σ Q) : Call E S d M vs σ Q := by
  refine Met.ofW (cc := M.2.1) (maxL := M.2.2.1) (ret := M.2.2.2) hp rfl ?_
  intro p e s m args below meth c s₁ B hml hv
  obtain ⟨rfl, hP, hK, hD, hSt⟩ := hv
  rw [lg_entry_eq]
  have hl := lv_entry (vs.map (k_cv E.2.2.1)) (n := M.2.2.1) (by rw [k_ex_len]; exact hn)
  refine h p e s m _ below meth c s.heap [] _ ⟨B.exec, B.bytes, hml, B.returns, B.notSynchronized, findClass_of_methodNamed B.named, atoms_spec B.pre, hK, k_wD hD, hSt⟩ hP va_S.rf ⟨hl.1, hl.2.1, fun q hq => ?_⟩
  obtain ⟨i, w⟩ := q
  obtain ⟨v, h1, h2⟩ := k_as_mem.mp hq
  subst hLo
  subst h2
  have h3 : (k_ex vs)[i]? = some (some v) := by
    by_cases hi : i < (k_ex vs).length
    · rwa [k_lo, List.getElem?_append_left hi] at h1
    · rw [k_lo, List.getElem?_append_right (by omega), List.getElem?_replicate] at h1
      split at h1 <;> cases h1
  have h4 := k_ex_args E.2.2.1 vs 0 i v h3
  rw [Nat.zero_add] at h4
  exact hl.2.2 _ h4
end
section
theorem k_stored_aux : True := trivial
/-- no long stands ahead of the place -/
def k_sok (Lo : List (Option Value)) (i : Nat) : Bool := Lo.zipIdx.all (fun q => match q.1 with
  | some (.long _) => !(q.2 + 1 == i)
  | some (.double _) => !(q.2 + 1 == i)
  | _ => true)
theorem k_stored {ad : Nat → Nat} {Lo : List (Option Value)} {i n : Nat} {v : Value} {ls ls' : Array Slot} (hl : lv_has ls n (k_as ad Lo)) (hok : k_sok Lo i = true) (hl' : lv_has ls' n ((i, k_cv ad v) :: (k_as ad Lo).filter (fun q => !(q.1 == i) && !(q.1 + 1 == i && q.2.category == 2)))) : lv_has ls' n (k_as ad (Lo.set i (some v))) := by
  refine ⟨hl'.1, hl'.2.1, fun q hq => hl'.2.2 q ?_⟩
  obtain ⟨j, w⟩ := q
  obtain ⟨u, h1, h2⟩ := k_as_mem.mp hq
  subst h2
  by_cases hj : i = j
  · subst hj
    rw [List.getElem?_set] at h1
    rw [if_pos rfl] at h1
    split at h1
    · cases h1; exact List.mem_cons_self
    · cases h1
  · rw [List.getElem?_set, if_neg hj] at h1
    refine List.mem_cons_of_mem _ (List.mem_filter.mpr ⟨k_as_mem.mpr ⟨_, h1, rfl⟩, ?_⟩)
    have hji : ¬ j = i := fun q => hj q.symm
    have h3 := List.all_eq_true.mp hok (some u, j) (List.mem_zipIdx_iff_getElem?.mpr h1)
    simp only [k_cv_cat]
    cases u <;> simp_all [Value.category]
theorem k_Alike {E : KE} {S : Shp} {M : KM} {p : Program} {s : State} {m : MethodId} {args : Array Value} {meth : Method} {c : Code} (F : k_F E S M p s m args meth c) {w : Cond} (hw : w ∈ k_gw) : w.before args s = true := F.2.2.2.2.2.2.1 _ (List.mem_cons_of_mem _ hw)
theorem wp_iconst {E : KE} {S : Shp} {M : KM} {d pc : Nat} {Lo : List (Option Value)} {st : List Value} {σ : Sg} {Q : Option Value → Sg → Prop} {n : Int} {v : Int32} (hd : decode M.2.1 pc = .ok (.iconst n, 1)) (hv : Int32.ofInt n = v) (h : WP E S M d (pc + 1) Lo (.int v :: st) σ Q) : WP E S M d pc Lo st σ Q := by
  intro p e s m args below meth c H locs ls F hP hS hl
  exact lv_iconst F.1 F.2.1 hd hv (h p e s m args below meth c H locs ls F hP hS hl)
theorem wp_bipush {E : KE} {S : Shp} {M : KM} {d pc : Nat} {Lo : List (Option Value)} {st : List Value} {σ : Sg} {Q : Option Value → Sg → Prop} {n : Int} {v : Int32} (hd : decode M.2.1 pc = .ok (.bipush n, 2)) (hv : (Int8.ofInt n).toInt32 = v) (h : WP E S M d (pc + 2) Lo (.int v :: st) σ Q) : WP E S M d pc Lo st σ Q := by
  intro p e s m args below meth c H locs ls F hP hS hl
  exact lv_bipush F.1 F.2.1 hd hv (h p e s m args below meth c H locs ls F hP hS hl)
theorem wp_sipush {E : KE} {S : Shp} {M : KM} {d pc : Nat} {Lo : List (Option Value)} {st : List Value} {σ : Sg} {Q : Option Value → Sg → Prop} {n : Int} {v : Int32} (hd : decode M.2.1 pc = .ok (.sipush n, 3)) (hv : (Int16.ofInt n).toInt32 = v) (h : WP E S M d (pc + 3) Lo (.int v :: st) σ Q) : WP E S M d pc Lo st σ Q := by
  intro p e s m args below meth c H locs ls F hP hS hl
  exact lv_sipush F.1 F.2.1 hd hv (h p e s m args below meth c H locs ls F hP hS hl)
theorem wp_iload_n {E : KE} {S : Shp} {M : KM} {d pc : Nat} {Lo : List (Option Value)} {st : List Value} {σ : Sg} {Q : Option Value → Sg → Prop} {k : Fin 4} {i : Nat} {x : Int32} (hd : decode M.2.1 pc = .ok (.iload_n k, 1)) (hi : (k : Nat) = i) (hx : Lo[i]? = some (some (.int x))) (h : WP E S M d (pc + 1) Lo (.int x :: st) σ Q) : WP E S M d pc Lo st σ Q := by
  intro p e s m args below meth c H locs ls F hP hS hl
  exact lv_iload_n F.1 F.2.1 hd hi (hl.2.2 _ (k_as_mem.mpr ⟨_, hx, rfl⟩)) (h p e s m args below meth c H locs ls F hP hS hl)
theorem wp_iload {E : KE} {S : Shp} {M : KM} {d pc : Nat} {Lo : List (Option Value)} {st : List Value} {σ : Sg} {Q : Option Value → Sg → Prop} {i : Nat} {x : Int32} (hd : decode M.2.1 pc = .ok (.iload i, 2)) (hx : Lo[i]? = some (some (.int x))) (h : WP E S M d (pc + 2) Lo (.int x :: st) σ Q) : WP E S M d pc Lo st σ Q := by
  intro p e s m args below meth c H locs ls F hP hS hl
  exact lv_iload F.1 F.2.1 hd (hl.2.2 _ (k_as_mem.mpr ⟨_, hx, rfl⟩)) (h p e s m args below meth c H locs ls F hP hS hl)
theorem wp_lload_n {E : KE} {S : Shp} {M : KM} {d pc : Nat} {Lo : List (Option Value)} {st : List Value} {σ : Sg} {Q : Option Value → Sg → Prop} {k : Fin 4} {i : Nat} {x : Int64} (hd : decode M.2.1 pc = .ok (.lload_n k, 1)) (hi : (k : Nat) = i) (hx : Lo[i]? = some (some (.long x))) (h : WP E S M d (pc + 1) Lo (.long x :: st) σ Q) : WP E S M d pc Lo st σ Q := by
  intro p e s m args below meth c H locs ls F hP hS hl
  exact lv_lload_n F.1 F.2.1 hd hi (hl.2.2 _ (k_as_mem.mpr ⟨_, hx, rfl⟩)) (h p e s m args below meth c H locs ls F hP hS hl)
theorem wp_lload {E : KE} {S : Shp} {M : KM} {d pc : Nat} {Lo : List (Option Value)} {st : List Value} {σ : Sg} {Q : Option Value → Sg → Prop} {i : Nat} {x : Int64} (hd : decode M.2.1 pc = .ok (.lload i, 2)) (hx : Lo[i]? = some (some (.long x))) (h : WP E S M d (pc + 2) Lo (.long x :: st) σ Q) : WP E S M d pc Lo st σ Q := by
  intro p e s m args below meth c H locs ls F hP hS hl
  exact lv_lload F.1 F.2.1 hd (hl.2.2 _ (k_as_mem.mpr ⟨_, hx, rfl⟩)) (h p e s m args below meth c H locs ls F hP hS hl)
theorem wp_aload_n {E : KE} {S : Shp} {M : KM} {d pc : Nat} {Lo : List (Option Value)} {st : List Value} {σ : Sg} {Q : Option Value → Sg → Prop} {k : Fin 4} {i : Nat} {x : Nat} (hd : decode M.2.1 pc = .ok (.aload_n k, 1)) (hi : (k : Nat) = i) (hx : Lo[i]? = some (some (.ref x))) (h : WP E S M d (pc + 1) Lo (.ref x :: st) σ Q) : WP E S M d pc Lo st σ Q := by
  intro p e s m args below meth c H locs ls F hP hS hl
  exact lv_aload_n F.1 F.2.1 hd hi (hl.2.2 _ (k_as_mem.mpr ⟨_, hx, rfl⟩)) (h p e s m args below meth c H locs ls F hP hS hl)
theorem wp_aload {E : KE} {S : Shp} {M : KM} {d pc : Nat} {Lo : List (Option Value)} {st : List Value} {σ : Sg} {Q : Option Value → Sg → Prop} {i : Nat} {x : Nat} (hd : decode M.2.1 pc = .ok (.aload i, 2)) (hx : Lo[i]? = some (some (.ref x))) (h : WP E S M d (pc + 2) Lo (.ref x :: st) σ Q) : WP E S M d pc Lo st σ Q := by
  intro p e s m args below meth c H locs ls F hP hS hl
  exact lv_aload F.1 F.2.1 hd (hl.2.2 _ (k_as_mem.mpr ⟨_, hx, rfl⟩)) (h p e s m args below meth c H locs ls F hP hS hl)
theorem wp_istore_n {E : KE} {S : Shp} {M : KM} {d pc : Nat} {Lo : List (Option Value)} {st : List Value} {σ : Sg} {Q : Option Value → Sg → Prop} {k : Fin 4} {i : Nat} {x : Int32} {Lo' : List (Option Value)} (hd : decode M.2.1 pc = .ok (.istore_n k, 1)) (hi : (k : Nat) = i) (hn : i < M.2.2.1) (hok : k_sok Lo i = true) (hLo : Lo.set i (some (.int x)) = Lo') (h : WP E S M d (pc + 1) Lo' st σ Q) : WP E S M d pc Lo (.int x :: st) σ Q := by
  intro p e s m args below meth c H locs ls F hP hS hl
  exact lv_istore_n F.1 F.2.1 hd hi hl hn rfl (fun ls' hl' => h p e s m args below meth c H locs ls' F hP hS (hLo ▸ k_stored (v := .int x) hl hok hl'))
theorem wp_istore {E : KE} {S : Shp} {M : KM} {d pc : Nat} {Lo : List (Option Value)} {st : List Value} {σ : Sg} {Q : Option Value → Sg → Prop} {i : Nat} {x : Int32} {Lo' : List (Option Value)} (hd : decode M.2.1 pc = .ok (.istore i, 2)) (hn : i < M.2.2.1) (hok : k_sok Lo i = true) (hLo : Lo.set i (some (.int x)) = Lo') (h : WP E S M d (pc + 2) Lo' st σ Q) : WP E S M d pc Lo (.int x :: st) σ Q := by
  intro p e s m args below meth c H locs ls F hP hS hl
  exact lv_istore F.1 F.2.1 hd hl hn rfl (fun ls' hl' => h p e s m args below meth c H locs ls' F hP hS (hLo ▸ k_stored (v := .int x) hl hok hl'))
theorem wp_astore_n {E : KE} {S : Shp} {M : KM} {d pc : Nat} {Lo : List (Option Value)} {st : List Value} {σ : Sg} {Q : Option Value → Sg → Prop} {k : Fin 4} {i : Nat} {x : Nat} {Lo' : List (Option Value)} (hd : decode M.2.1 pc = .ok (.astore_n k, 1)) (hi : (k : Nat) = i) (hn : i < M.2.2.1) (hok : k_sok Lo i = true) (hLo : Lo.set i (some (.ref x)) = Lo') (h : WP E S M d (pc + 1) Lo' st σ Q) : WP E S M d pc Lo (.ref x :: st) σ Q := by
  intro p e s m args below meth c H locs ls F hP hS hl
  exact lv_astore_n F.1 F.2.1 hd hi hl hn rfl (fun ls' hl' => h p e s m args below meth c H locs ls' F hP hS (hLo ▸ k_stored (v := .ref x) hl hok hl'))
theorem wp_astore {E : KE} {S : Shp} {M : KM} {d pc : Nat} {Lo : List (Option Value)} {st : List Value} {σ : Sg} {Q : Option Value → Sg → Prop} {i : Nat} {x : Nat} {Lo' : List (Option Value)} (hd : decode M.2.1 pc = .ok (.astore i, 2)) (hn : i < M.2.2.1) (hok : k_sok Lo i = true) (hLo : Lo.set i (some (.ref x)) = Lo') (h : WP E S M d (pc + 2) Lo' st σ Q) : WP E S M d pc Lo (.ref x :: st) σ Q := by
  intro p e s m args below meth c H locs ls F hP hS hl
  exact lv_astore F.1 F.2.1 hd hl hn rfl (fun ls' hl' => h p e s m args below meth c H locs ls' F hP hS (hLo ▸ k_stored (v := .ref x) hl hok hl'))
theorem wp_iinc {E : KE} {S : Shp} {M : KM} {d pc : Nat} {Lo : List (Option Value)} {st : List Value} {σ : Sg} {Q : Option Value → Sg → Prop} {i : Nat} {n : Int} {x v : Int32} {Lo' : List (Option Value)} (hd : decode M.2.1 pc = .ok (.iinc i n, 3)) (hx : Lo[i]? = some (some (.int x))) (hv : x + Int32.ofInt n = v) (hn : i < M.2.2.1) (hok : k_sok Lo i = true) (hLo : Lo.set i (some (.int v)) = Lo') (h : WP E S M d (pc + 3) Lo' st σ Q) : WP E S M d pc Lo st σ Q := by
  intro p e s m args below meth c H locs ls F hP hS hl
  obtain ⟨k, hk⟩ := List.getElem?_of_mem (k_as_mem.mpr ⟨_, hx, rfl⟩ : (i, Value.int x) ∈ k_as E.2.2.1 Lo)
  exact lv_iinc F.1 F.2.1 hd hl hk hv hn rfl (fun ls' hl' => h p e s m args below meth c H locs ls' F hP hS (hLo ▸ k_stored (v := .int v) hl hok hl'))
theorem wp_iadd {E : KE} {S : Shp} {M : KM} {d pc : Nat} {Lo : List (Option Value)} {st : List Value} {σ : Sg} {Q : Option Value → Sg → Prop} {x y : Int32} (hd : decode M.2.1 pc = .ok (.iadd, 1)) (h : WP E S M d (pc + 1) Lo (.int (x + y) :: st) σ Q) : WP E S M d pc Lo (.int y :: .int x :: st) σ Q := by
  intro p e s m args below meth c H locs ls F hP hS hl
  exact lv_iadd F.1 F.2.1 hd (h p e s m args below meth c H locs ls F hP hS hl)
theorem wp_isub {E : KE} {S : Shp} {M : KM} {d pc : Nat} {Lo : List (Option Value)} {st : List Value} {σ : Sg} {Q : Option Value → Sg → Prop} {x y : Int32} (hd : decode M.2.1 pc = .ok (.isub, 1)) (h : WP E S M d (pc + 1) Lo (.int (x - y) :: st) σ Q) : WP E S M d pc Lo (.int y :: .int x :: st) σ Q := by
  intro p e s m args below meth c H locs ls F hP hS hl
  exact lv_isub F.1 F.2.1 hd (h p e s m args below meth c H locs ls F hP hS hl)
theorem wp_imul {E : KE} {S : Shp} {M : KM} {d pc : Nat} {Lo : List (Option Value)} {st : List Value} {σ : Sg} {Q : Option Value → Sg → Prop} {x y : Int32} (hd : decode M.2.1 pc = .ok (.imul, 1)) (h : WP E S M d (pc + 1) Lo (.int (x * y) :: st) σ Q) : WP E S M d pc Lo (.int y :: .int x :: st) σ Q := by
  intro p e s m args below meth c H locs ls F hP hS hl
  exact lv_imul F.1 F.2.1 hd (h p e s m args below meth c H locs ls F hP hS hl)
theorem wp_iand {E : KE} {S : Shp} {M : KM} {d pc : Nat} {Lo : List (Option Value)} {st : List Value} {σ : Sg} {Q : Option Value → Sg → Prop} {x y : Int32} (hd : decode M.2.1 pc = .ok (.iand, 1)) (h : WP E S M d (pc + 1) Lo (.int (x &&& y) :: st) σ Q) : WP E S M d pc Lo (.int y :: .int x :: st) σ Q := by
  intro p e s m args below meth c H locs ls F hP hS hl
  exact lv_iand F.1 F.2.1 hd (h p e s m args below meth c H locs ls F hP hS hl)
theorem wp_ior {E : KE} {S : Shp} {M : KM} {d pc : Nat} {Lo : List (Option Value)} {st : List Value} {σ : Sg} {Q : Option Value → Sg → Prop} {x y : Int32} (hd : decode M.2.1 pc = .ok (.ior, 1)) (h : WP E S M d (pc + 1) Lo (.int (x ||| y) :: st) σ Q) : WP E S M d pc Lo (.int y :: .int x :: st) σ Q := by
  intro p e s m args below meth c H locs ls F hP hS hl
  exact lv_ior F.1 F.2.1 hd (h p e s m args below meth c H locs ls F hP hS hl)
theorem wp_ixor {E : KE} {S : Shp} {M : KM} {d pc : Nat} {Lo : List (Option Value)} {st : List Value} {σ : Sg} {Q : Option Value → Sg → Prop} {x y : Int32} (hd : decode M.2.1 pc = .ok (.ixor, 1)) (h : WP E S M d (pc + 1) Lo (.int (x ^^^ y) :: st) σ Q) : WP E S M d pc Lo (.int y :: .int x :: st) σ Q := by
  intro p e s m args below meth c H locs ls F hP hS hl
  exact lv_ixor F.1 F.2.1 hd (h p e s m args below meth c H locs ls F hP hS hl)
theorem wp_ishl {E : KE} {S : Shp} {M : KM} {d pc : Nat} {Lo : List (Option Value)} {st : List Value} {σ : Sg} {Q : Option Value → Sg → Prop} {x y : Int32} (hd : decode M.2.1 pc = .ok (.ishl, 1)) (h : WP E S M d (pc + 1) Lo (.int (x <<< (y &&& 31)) :: st) σ Q) : WP E S M d pc Lo (.int y :: .int x :: st) σ Q := by
  intro p e s m args below meth c H locs ls F hP hS hl
  exact lv_ishl F.1 F.2.1 hd (h p e s m args below meth c H locs ls F hP hS hl)
theorem wp_ishr {E : KE} {S : Shp} {M : KM} {d pc : Nat} {Lo : List (Option Value)} {st : List Value} {σ : Sg} {Q : Option Value → Sg → Prop} {x y : Int32} (hd : decode M.2.1 pc = .ok (.ishr, 1)) (h : WP E S M d (pc + 1) Lo (.int (x >>> (y &&& 31)) :: st) σ Q) : WP E S M d pc Lo (.int y :: .int x :: st) σ Q := by
  intro p e s m args below meth c H locs ls F hP hS hl
  exact lv_ishr F.1 F.2.1 hd (h p e s m args below meth c H locs ls F hP hS hl)
theorem wp_land {E : KE} {S : Shp} {M : KM} {d pc : Nat} {Lo : List (Option Value)} {st : List Value} {σ : Sg} {Q : Option Value → Sg → Prop} {x y : Int64} (hd : decode M.2.1 pc = .ok (.land, 1)) (h : WP E S M d (pc + 1) Lo (.long (x &&& y) :: st) σ Q) : WP E S M d pc Lo (.long y :: .long x :: st) σ Q := by
  intro p e s m args below meth c H locs ls F hP hS hl
  exact lv_land F.1 F.2.1 hd (h p e s m args below meth c H locs ls F hP hS hl)
theorem wp_lor {E : KE} {S : Shp} {M : KM} {d pc : Nat} {Lo : List (Option Value)} {st : List Value} {σ : Sg} {Q : Option Value → Sg → Prop} {x y : Int64} (hd : decode M.2.1 pc = .ok (.lor, 1)) (h : WP E S M d (pc + 1) Lo (.long (x ||| y) :: st) σ Q) : WP E S M d pc Lo (.long y :: .long x :: st) σ Q := by
  intro p e s m args below meth c H locs ls F hP hS hl
  exact lv_lor F.1 F.2.1 hd (h p e s m args below meth c H locs ls F hP hS hl)
theorem wp_idiv {E : KE} {S : Shp} {M : KM} {d pc : Nat} {Lo : List (Option Value)} {st : List Value} {σ : Sg} {Q : Option Value → Sg → Prop} {x y : Int32} (hd : decode M.2.1 pc = .ok (.idiv, 1)) (h : ¬ y = 0 ∧ WP E S M d (pc + 1) Lo (.int (x / y) :: st) σ Q) : WP E S M d pc Lo (.int y :: .int x :: st) σ Q := by
  intro p e s m args below meth c H locs ls F hP hS hl
  exact lv_idiv F.1 F.2.1 hd h.1 (h.2 p e s m args below meth c H locs ls F hP hS hl)
theorem wp_irem {E : KE} {S : Shp} {M : KM} {d pc : Nat} {Lo : List (Option Value)} {st : List Value} {σ : Sg} {Q : Option Value → Sg → Prop} {x y : Int32} (hd : decode M.2.1 pc = .ok (.irem, 1)) (h : ¬ y = 0 ∧ WP E S M d (pc + 1) Lo (.int (x - x / y * y) :: st) σ Q) : WP E S M d pc Lo (.int y :: .int x :: st) σ Q := by
  intro p e s m args below meth c H locs ls F hP hS hl
  exact lv_irem F.1 F.2.1 hd h.1 (h.2 p e s m args below meth c H locs ls F hP hS hl)
theorem wp_ineg {E : KE} {S : Shp} {M : KM} {d pc : Nat} {Lo : List (Option Value)} {st : List Value} {σ : Sg} {Q : Option Value → Sg → Prop} {x : Int32} (hd : decode M.2.1 pc = .ok (.ineg, 1)) (h : WP E S M d (pc + 1) Lo (.int (-x) :: st) σ Q) : WP E S M d pc Lo (.int x :: st) σ Q := by
  intro p e s m args below meth c H locs ls F hP hS hl
  exact lv_ineg F.1 F.2.1 hd (h p e s m args below meth c H locs ls F hP hS hl)
theorem wp_iushr {E : KE} {S : Shp} {M : KM} {d pc : Nat} {Lo : List (Option Value)} {st : List Value} {σ : Sg} {Q : Option Value → Sg → Prop} {x y : Int32} (hd : decode M.2.1 pc = .ok (.iushr, 1)) (h : WP E S M d (pc + 1) Lo (.int (x.toUInt32 >>> (y.toUInt32 &&& Int32.toUInt32 31)).toInt32 :: st) σ Q) : WP E S M d pc Lo (.int y :: .int x :: st) σ Q := by
  intro p e s m args below meth c H locs ls F hP hS hl
  exact lv_iushr F.1 F.2.1 hd rfl (h p e s m args below meth c H locs ls F hP hS hl)
theorem wp_lushr {E : KE} {S : Shp} {M : KM} {d pc : Nat} {Lo : List (Option Value)} {st : List Value} {σ : Sg} {Q : Option Value → Sg → Prop} {x : Int64} {y : Int32} (hd : decode M.2.1 pc = .ok (.lushr, 1)) (h : WP E S M d (pc + 1) Lo (.long (x.toUInt64 >>> (y.toInt64.toUInt64 &&& Int64.toUInt64 63)).toInt64 :: st) σ Q) : WP E S M d pc Lo (.int y :: .long x :: st) σ Q := by
  intro p e s m args below meth c H locs ls F hP hS hl
  exact lv_lushr F.1 F.2.1 hd rfl (h p e s m args below meth c H locs ls F hP hS hl)
theorem wp_lshr {E : KE} {S : Shp} {M : KM} {d pc : Nat} {Lo : List (Option Value)} {st : List Value} {σ : Sg} {Q : Option Value → Sg → Prop} {x : Int64} {y : Int32} (hd : decode M.2.1 pc = .ok (.lshr, 1)) (h : WP E S M d (pc + 1) Lo (.long (x >>> (y.toInt64 &&& 63)) :: st) σ Q) : WP E S M d pc Lo (.int y :: .long x :: st) σ Q := by
  intro p e s m args below meth c H locs ls F hP hS hl
  exact lv_lshr F.1 F.2.1 hd rfl (h p e s m args below meth c H locs ls F hP hS hl)
theorem wp_lshl {E : KE} {S : Shp} {M : KM} {d pc : Nat} {Lo : List (Option Value)} {st : List Value} {σ : Sg} {Q : Option Value → Sg → Prop} {x : Int64} {y : Int32} (hd : decode M.2.1 pc = .ok (.lshl, 1)) (h : WP E S M d (pc + 1) Lo (.long (x <<< (y.toInt64 &&& 63)) :: st) σ Q) : WP E S M d pc Lo (.int y :: .long x :: st) σ Q := by
  intro p e s m args below meth c H locs ls F hP hS hl
  exact lv_lshl F.1 F.2.1 hd rfl (h p e s m args below meth c H locs ls F hP hS hl)
theorem wp_i2l {E : KE} {S : Shp} {M : KM} {d pc : Nat} {Lo : List (Option Value)} {st : List Value} {σ : Sg} {Q : Option Value → Sg → Prop} {x : Int32} (hd : decode M.2.1 pc = .ok (.i2l, 1)) (h : WP E S M d (pc + 1) Lo (.long x.toInt64 :: st) σ Q) : WP E S M d pc Lo (.int x :: st) σ Q := by
  intro p e s m args below meth c H locs ls F hP hS hl
  exact lv_i2l F.1 F.2.1 hd rfl (h p e s m args below meth c H locs ls F hP hS hl)
theorem wp_l2i {E : KE} {S : Shp} {M : KM} {d pc : Nat} {Lo : List (Option Value)} {st : List Value} {σ : Sg} {Q : Option Value → Sg → Prop} {x : Int64} (hd : decode M.2.1 pc = .ok (.l2i, 1)) (h : WP E S M d (pc + 1) Lo (.int x.toInt32 :: st) σ Q) : WP E S M d pc Lo (.long x :: st) σ Q := by
  intro p e s m args below meth c H locs ls F hP hS hl
  exact lv_l2i F.1 F.2.1 hd rfl (h p e s m args below meth c H locs ls F hP hS hl)
theorem wp_i2b {E : KE} {S : Shp} {M : KM} {d pc : Nat} {Lo : List (Option Value)} {st : List Value} {σ : Sg} {Q : Option Value → Sg → Prop} {x : Int32} (hd : decode M.2.1 pc = .ok (.i2b, 1)) (h : WP E S M d (pc + 1) Lo (.int x.toInt8.toInt32 :: st) σ Q) : WP E S M d pc Lo (.int x :: st) σ Q := by
  intro p e s m args below meth c H locs ls F hP hS hl
  exact lv_i2b F.1 F.2.1 hd rfl (h p e s m args below meth c H locs ls F hP hS hl)
theorem wp_i2s {E : KE} {S : Shp} {M : KM} {d pc : Nat} {Lo : List (Option Value)} {st : List Value} {σ : Sg} {Q : Option Value → Sg → Prop} {x : Int32} (hd : decode M.2.1 pc = .ok (.i2s, 1)) (h : WP E S M d (pc + 1) Lo (.int x.toInt16.toInt32 :: st) σ Q) : WP E S M d pc Lo (.int x :: st) σ Q := by
  intro p e s m args below meth c H locs ls F hP hS hl
  exact lv_i2s F.1 F.2.1 hd rfl (h p e s m args below meth c H locs ls F hP hS hl)
theorem wp_dup {E : KE} {S : Shp} {M : KM} {d pc : Nat} {Lo : List (Option Value)} {st : List Value} {σ : Sg} {Q : Option Value → Sg → Prop} {va : Value} (hd : decode M.2.1 pc = .ok (.dup, 1)) (hva : va.category = 1) (h : WP E S M d (pc + 1) Lo (va :: va :: st) σ Q) : WP E S M d pc Lo (va :: st) σ Q := by
  intro p e s m args below meth c H locs ls F hP hS hl
  exact lv_dup F.1 F.2.1 hd ((k_cv_cat _ _).trans hva) (h p e s m args below meth c H locs ls F hP hS hl)
theorem wp_pop {E : KE} {S : Shp} {M : KM} {d pc : Nat} {Lo : List (Option Value)} {st : List Value} {σ : Sg} {Q : Option Value → Sg → Prop} {va : Value} (hd : decode M.2.1 pc = .ok (.pop, 1)) (hva : va.category = 1) (h : WP E S M d (pc + 1) Lo st σ Q) : WP E S M d pc Lo (va :: st) σ Q := by
  intro p e s m args below meth c H locs ls F hP hS hl
  exact lv_pop F.1 F.2.1 hd ((k_cv_cat _ _).trans hva) (h p e s m args below meth c H locs ls F hP hS hl)
theorem wp_dup2 {E : KE} {S : Shp} {M : KM} {d pc : Nat} {Lo : List (Option Value)} {st : List Value} {σ : Sg} {Q : Option Value → Sg → Prop} {va vb : Value} (hd : decode M.2.1 pc = .ok (.dup2, 1)) (hva : va.category = 1) (hvb : vb.category = 1) (h : WP E S M d (pc + 1) Lo (va :: vb :: va :: vb :: st) σ Q) : WP E S M d pc Lo (va :: vb :: st) σ Q := by
  intro p e s m args below meth c H locs ls F hP hS hl
  exact lv_dup2_11 F.1 F.2.1 hd ((k_cv_cat _ _).trans hva) ((k_cv_cat _ _).trans hvb) (h p e s m args below meth c H locs ls F hP hS hl)
theorem wp_ifeq {E : KE} {S : Shp} {M : KM} {d pc : Nat} {Lo : List (Option Value)} {st : List Value} {σ : Sg} {Q : Option Value → Sg → Prop} {x : Int32} {off : Int} {tgt : Nat} (hd : decode M.2.1 pc = .ok (.ifCond .eq off, 3)) (ht : (pc : Int) + off = (tgt : Int)) (h : (x = 0 → WP E S M d tgt Lo st σ Q) ∧ (¬ x = 0 → WP E S M d (pc + 3) Lo st σ Q)) : WP E S M d pc Lo (.int x :: st) σ Q := by
  intro p e s m args below meth c H locs ls F hP hS hl
  exact lv_if_eq F.1 F.2.1 hd ht (fun q => h.1 q p e s m args below meth c H locs ls F hP hS hl) (fun q => h.2 q p e s m args below meth c H locs ls F hP hS hl)
theorem wp_ifne {E : KE} {S : Shp} {M : KM} {d pc : Nat} {Lo : List (Option Value)} {st : List Value} {σ : Sg} {Q : Option Value → Sg → Prop} {x : Int32} {off : Int} {tgt : Nat} (hd : decode M.2.1 pc = .ok (.ifCond .ne off, 3)) (ht : (pc : Int) + off = (tgt : Int)) (h : (¬ x = 0 → WP E S M d tgt Lo st σ Q) ∧ (x = 0 → WP E S M d (pc + 3) Lo st σ Q)) : WP E S M d pc Lo (.int x :: st) σ Q := by
  intro p e s m args below meth c H locs ls F hP hS hl
  exact lv_if_ne F.1 F.2.1 hd ht (fun q => h.1 q p e s m args below meth c H locs ls F hP hS hl) (fun q => h.2 q p e s m args below meth c H locs ls F hP hS hl)
theorem wp_iflt {E : KE} {S : Shp} {M : KM} {d pc : Nat} {Lo : List (Option Value)} {st : List Value} {σ : Sg} {Q : Option Value → Sg → Prop} {x : Int32} {off : Int} {tgt : Nat} (hd : decode M.2.1 pc = .ok (.ifCond .lt off, 3)) (ht : (pc : Int) + off = (tgt : Int)) (h : (x < 0 → WP E S M d tgt Lo st σ Q) ∧ (¬ x < 0 → WP E S M d (pc + 3) Lo st σ Q)) : WP E S M d pc Lo (.int x :: st) σ Q := by
  intro p e s m args below meth c H locs ls F hP hS hl
  exact lv_if_lt F.1 F.2.1 hd ht (fun q => h.1 q p e s m args below meth c H locs ls F hP hS hl) (fun q => h.2 q p e s m args below meth c H locs ls F hP hS hl)
theorem wp_ifge {E : KE} {S : Shp} {M : KM} {d pc : Nat} {Lo : List (Option Value)} {st : List Value} {σ : Sg} {Q : Option Value → Sg → Prop} {x : Int32} {off : Int} {tgt : Nat} (hd : decode M.2.1 pc = .ok (.ifCond .ge off, 3)) (ht : (pc : Int) + off = (tgt : Int)) (h : (0 ≤ x → WP E S M d tgt Lo st σ Q) ∧ (¬ 0 ≤ x → WP E S M d (pc + 3) Lo st σ Q)) : WP E S M d pc Lo (.int x :: st) σ Q := by
  intro p e s m args below meth c H locs ls F hP hS hl
  exact lv_if_ge F.1 F.2.1 hd ht (fun q => h.1 q p e s m args below meth c H locs ls F hP hS hl) (fun q => h.2 q p e s m args below meth c H locs ls F hP hS hl)
theorem wp_ifgt {E : KE} {S : Shp} {M : KM} {d pc : Nat} {Lo : List (Option Value)} {st : List Value} {σ : Sg} {Q : Option Value → Sg → Prop} {x : Int32} {off : Int} {tgt : Nat} (hd : decode M.2.1 pc = .ok (.ifCond .gt off, 3)) (ht : (pc : Int) + off = (tgt : Int)) (h : (0 < x → WP E S M d tgt Lo st σ Q) ∧ (¬ 0 < x → WP E S M d (pc + 3) Lo st σ Q)) : WP E S M d pc Lo (.int x :: st) σ Q := by
  intro p e s m args below meth c H locs ls F hP hS hl
  exact lv_if_gt F.1 F.2.1 hd ht (fun q => h.1 q p e s m args below meth c H locs ls F hP hS hl) (fun q => h.2 q p e s m args below meth c H locs ls F hP hS hl)
theorem wp_ifle {E : KE} {S : Shp} {M : KM} {d pc : Nat} {Lo : List (Option Value)} {st : List Value} {σ : Sg} {Q : Option Value → Sg → Prop} {x : Int32} {off : Int} {tgt : Nat} (hd : decode M.2.1 pc = .ok (.ifCond .le off, 3)) (ht : (pc : Int) + off = (tgt : Int)) (h : (x ≤ 0 → WP E S M d tgt Lo st σ Q) ∧ (¬ x ≤ 0 → WP E S M d (pc + 3) Lo st σ Q)) : WP E S M d pc Lo (.int x :: st) σ Q := by
  intro p e s m args below meth c H locs ls F hP hS hl
  exact lv_if_le F.1 F.2.1 hd ht (fun q => h.1 q p e s m args below meth c H locs ls F hP hS hl) (fun q => h.2 q p e s m args below meth c H locs ls F hP hS hl)
theorem wp_icmpeq {E : KE} {S : Shp} {M : KM} {d pc : Nat} {Lo : List (Option Value)} {st : List Value} {σ : Sg} {Q : Option Value → Sg → Prop} {x y : Int32} {off : Int} {tgt : Nat} (hd : decode M.2.1 pc = .ok (.if_icmp .eq off, 3)) (ht : (pc : Int) + off = (tgt : Int)) (h : (x = y → WP E S M d tgt Lo st σ Q) ∧ (¬ x = y → WP E S M d (pc + 3) Lo st σ Q)) : WP E S M d pc Lo (.int y :: .int x :: st) σ Q := by
  intro p e s m args below meth c H locs ls F hP hS hl
  exact lv_icmp_eq F.1 F.2.1 hd ht (fun q => h.1 q p e s m args below meth c H locs ls F hP hS hl) (fun q => h.2 q p e s m args below meth c H locs ls F hP hS hl)
theorem wp_icmpne {E : KE} {S : Shp} {M : KM} {d pc : Nat} {Lo : List (Option Value)} {st : List Value} {σ : Sg} {Q : Option Value → Sg → Prop} {x y : Int32} {off : Int} {tgt : Nat} (hd : decode M.2.1 pc = .ok (.if_icmp .ne off, 3)) (ht : (pc : Int) + off = (tgt : Int)) (h : (¬ x = y → WP E S M d tgt Lo st σ Q) ∧ (x = y → WP E S M d (pc + 3) Lo st σ Q)) : WP E S M d pc Lo (.int y :: .int x :: st) σ Q := by
  intro p e s m args below meth c H locs ls F hP hS hl
  exact lv_icmp_ne F.1 F.2.1 hd ht (fun q => h.1 q p e s m args below meth c H locs ls F hP hS hl) (fun q => h.2 q p e s m args below meth c H locs ls F hP hS hl)
theorem wp_icmplt {E : KE} {S : Shp} {M : KM} {d pc : Nat} {Lo : List (Option Value)} {st : List Value} {σ : Sg} {Q : Option Value → Sg → Prop} {x y : Int32} {off : Int} {tgt : Nat} (hd : decode M.2.1 pc = .ok (.if_icmp .lt off, 3)) (ht : (pc : Int) + off = (tgt : Int)) (h : (x < y → WP E S M d tgt Lo st σ Q) ∧ (¬ x < y → WP E S M d (pc + 3) Lo st σ Q)) : WP E S M d pc Lo (.int y :: .int x :: st) σ Q := by
  intro p e s m args below meth c H locs ls F hP hS hl
  exact lv_icmp_lt F.1 F.2.1 hd ht (fun q => h.1 q p e s m args below meth c H locs ls F hP hS hl) (fun q => h.2 q p e s m args below meth c H locs ls F hP hS hl)
theorem wp_icmpge {E : KE} {S : Shp} {M : KM} {d pc : Nat} {Lo : List (Option Value)} {st : List Value} {σ : Sg} {Q : Option Value → Sg → Prop} {x y : Int32} {off : Int} {tgt : Nat} (hd : decode M.2.1 pc = .ok (.if_icmp .ge off, 3)) (ht : (pc : Int) + off = (tgt : Int)) (h : (y ≤ x → WP E S M d tgt Lo st σ Q) ∧ (¬ y ≤ x → WP E S M d (pc + 3) Lo st σ Q)) : WP E S M d pc Lo (.int y :: .int x :: st) σ Q := by
  intro p e s m args below meth c H locs ls F hP hS hl
  exact lv_icmp_ge F.1 F.2.1 hd ht (fun q => h.1 q p e s m args below meth c H locs ls F hP hS hl) (fun q => h.2 q p e s m args below meth c H locs ls F hP hS hl)
theorem wp_icmpgt {E : KE} {S : Shp} {M : KM} {d pc : Nat} {Lo : List (Option Value)} {st : List Value} {σ : Sg} {Q : Option Value → Sg → Prop} {x y : Int32} {off : Int} {tgt : Nat} (hd : decode M.2.1 pc = .ok (.if_icmp .gt off, 3)) (ht : (pc : Int) + off = (tgt : Int)) (h : (y < x → WP E S M d tgt Lo st σ Q) ∧ (¬ y < x → WP E S M d (pc + 3) Lo st σ Q)) : WP E S M d pc Lo (.int y :: .int x :: st) σ Q := by
  intro p e s m args below meth c H locs ls F hP hS hl
  exact lv_icmp_gt F.1 F.2.1 hd ht (fun q => h.1 q p e s m args below meth c H locs ls F hP hS hl) (fun q => h.2 q p e s m args below meth c H locs ls F hP hS hl)
theorem wp_icmple {E : KE} {S : Shp} {M : KM} {d pc : Nat} {Lo : List (Option Value)} {st : List Value} {σ : Sg} {Q : Option Value → Sg → Prop} {x y : Int32} {off : Int} {tgt : Nat} (hd : decode M.2.1 pc = .ok (.if_icmp .le off, 3)) (ht : (pc : Int) + off = (tgt : Int)) (h : (x ≤ y → WP E S M d tgt Lo st σ Q) ∧ (¬ x ≤ y → WP E S M d (pc + 3) Lo st σ Q)) : WP E S M d pc Lo (.int y :: .int x :: st) σ Q := by
  intro p e s m args below meth c H locs ls F hP hS hl
  exact lv_icmp_le F.1 F.2.1 hd ht (fun q => h.1 q p e s m args below meth c H locs ls F hP hS hl) (fun q => h.2 q p e s m args below meth c H locs ls F hP hS hl)
theorem wp_goto {E : KE} {S : Shp} {M : KM} {d pc : Nat} {Lo : List (Option Value)} {st : List Value} {σ : Sg} {Q : Option Value → Sg → Prop} {off : Int} {tgt : Nat} (hd : decode M.2.1 pc = .ok (.goto off, 3)) (ht : (pc : Int) + off = (tgt : Int)) (h : WP E S M d tgt Lo st σ Q) : WP E S M d pc Lo st σ Q := by
  intro p e s m args below meth c H locs ls F hP hS hl
  exact lv_goto F.1 F.2.1 hd ht (h p e s m args below meth c H locs ls F hP hS hl)
theorem wp_ldc {E : KE} {S : Shp} {M : KM} {d pc : Nat} {Lo : List (Option Value)} {st : List Value} {σ : Sg} {Q : Option Value → Sg → Prop} {idx : Nat} {v : Int32} (hw : Cond.constant M.1.cls idx v ∈ k_gw) (hd : decode M.2.1 pc = .ok (.ldc idx, 2)) (h : WP E S M d (pc + 2) Lo (.int v :: st) σ Q) : WP E S M d pc Lo st σ Q := by
  intro p e s m args below meth c H locs ls F hP hS hl
  exact lv_ldc F.1 F.2.1 F.2.2.2.2.2.1 (F.2.2.2.2.2.2.1 _ (List.mem_cons_of_mem _ hw)) hd (h p e s m args below meth c H locs ls F hP hS hl)
theorem wp_ldcw {E : KE} {S : Shp} {M : KM} {d pc : Nat} {Lo : List (Option Value)} {st : List Value} {σ : Sg} {Q : Option Value → Sg → Prop} {idx : Nat} {v : Int32} (hw : Cond.constant M.1.cls idx v ∈ k_gw) (hd : decode M.2.1 pc = .ok (.ldc_w idx, 3)) (h : WP E S M d (pc + 3) Lo (.int v :: st) σ Q) : WP E S M d pc Lo st σ Q := by
  intro p e s m args below meth c H locs ls F hP hS hl
  exact lv_ldcw F.1 F.2.1 F.2.2.2.2.2.1 (F.2.2.2.2.2.2.1 _ (List.mem_cons_of_mem _ hw)) hd (h p e s m args below meth c H locs ls F hP hS hl)
theorem wp_ldc2 {E : KE} {S : Shp} {M : KM} {d pc : Nat} {Lo : List (Option Value)} {st : List Value} {σ : Sg} {Q : Option Value → Sg → Prop} {idx : Nat} {v : Int64} (hw : Cond.constantLong M.1.cls idx v ∈ k_gw) (hd : decode M.2.1 pc = .ok (.ldc2_w idx, 3)) (h : WP E S M d (pc + 3) Lo (.long v :: st) σ Q) : WP E S M d pc Lo st σ Q := by
  intro p e s m args below meth c H locs ls F hP hS hl
  exact lv_ldc2 F.1 F.2.1 F.2.2.2.2.2.1 (F.2.2.2.2.2.2.1 _ (List.mem_cons_of_mem _ hw)) hd (h p e s m args below meth c H locs ls F hP hS hl)
end
section
section R2
variable {E : KE} {S : Shp} {M : KM} {d pc : Nat} {Lo : List (Option Value)} {st : List Value} {σ : Sg} {Q : Option Value → Sg → Prop}
/-- a field's link: its class among vwCl, its place, its row of the tables -/
def k_LF (own : String) (idx ci k : Nat) : Prop := ∃ (C : String) (T : u_T) (N : Nat), vwCl[ci]? = some (C, T, N) ∧ k < N ∧ (∀ w ∈ u_ws C T N, w ∈ k_gw) ∧ Cond.fieldLink own idx (T k).1 (T k).2.1 (T k).2.2.1 ∈ k_gw
/-- a field's link, to be written -/
def k_LP (own : String) (idx ci k : Nat) (ty : FieldType) : Prop := ∃ (C : String) (T : u_T) (N : Nat) (ty0 : Nat → FieldType), vwCl[ci]? = some (C, T, N) ∧ k < N ∧ (∀ w ∈ u_ws C T N, w ∈ k_gw) ∧ Cond.fieldLink own idx (T k).1 (T k).2.1 (T k).2.2.1 ∈ k_gw ∧
  (∀ k, k < N → parseFieldDescriptor (T k).2.2.1 = some (ty0 k)) ∧ (∀ a, a < N → ∀ b, b < N → a ≠ b → (T a).2.1 ≠ (T b).2.1) ∧ (T k).2.2.2 = false ∧ parseFieldDescriptor (T k).2.2.1 = some ty
theorem k_cell_o {i ci : Nat} {fs : List (Option Nat)} (hs : S[i]? = some (.inr (ci, fs))) : (k_w E S σ)[i]? = some (E.2.2.1 i, .inr (ci, k_fv E.2.2.1 (σ i) 0 fs)) := by
  rw [k_w_get, hs]; rfl
theorem k_cell_a {i n : Nat} (hs : S[i]? = some (.inl n)) : (k_w E S σ)[i]? = some (E.2.2.1 i, .inl (E.2.2.2, n, .inl (σ i))) := by
  rw [k_w_get, hs]; rfl
theorem wp_getI {j ci k idx : Nat} {fs : List (Option Nat)} (hd : decode M.2.1 pc = .ok (.getfield idx, 3)) (hL : k_LF M.1.cls idx ci k) (hs : S[j]? = some (.inr (ci, fs))) (hf : fs[k]? = some none) (h : WP E S M d (pc + 3) Lo (.int (σ j k) :: st) σ Q) : WP E S M d pc Lo (.ref j :: st) σ Q := by
  intro p e s m args below meth c H locs ls F hP hS hl
  obtain ⟨C, T, N, h1, h2, h3, h4⟩ := hL
  exact va_get (D := E.2.1) (v := .int (σ j k)) F.1 F.2.1 F.2.2.2.2.2.2.1 (fun w q => List.mem_cons_of_mem _ (h3 w q)) F.2.2.2.2.2.1 F.2.2.2.2.2.2.2.1 hP j (k_cell_o hs) h1 k h2 (k_Alike F h4) (fun _ q => q) (by rw [k_fv_get, hf, Nat.zero_add]; rfl) hd (h p e s m args below meth c H locs ls F hP hS hl)
theorem wp_getR {j ci k idx t : Nat} {fs : List (Option Nat)} (hd : decode M.2.1 pc = .ok (.getfield idx, 3)) (hL : k_LF M.1.cls idx ci k) (hs : S[j]? = some (.inr (ci, fs))) (hf : fs[k]? = some (some t)) (h : WP E S M d (pc + 3) Lo (.ref t :: st) σ Q) : WP E S M d pc Lo (.ref j :: st) σ Q := by
  intro p e s m args below meth c H locs ls F hP hS hl
  obtain ⟨C, T, N, h1, h2, h3, h4⟩ := hL
  exact va_get (D := E.2.1) (v := .ref (E.2.2.1 t)) F.1 F.2.1 F.2.2.2.2.2.2.1 (fun w q => List.mem_cons_of_mem _ (h3 w q)) F.2.2.2.2.2.1 F.2.2.2.2.2.2.2.1 hP j (k_cell_o hs) h1 k h2 (k_Alike F h4) (fun _ q => q) (by rw [k_fv_get, hf]; rfl) hd (h p e s m args below meth c H locs ls F hP hS hl)
theorem wp_put {j ci k idx : Nat} {fs : List (Option Nat)} {v : Int32} {ty : FieldType} (hd : decode M.2.1 pc = .ok (.putfield idx, 3)) (hL : k_LP M.1.cls idx ci k ty) (hs : S[j]? = some (.inr (ci, fs))) (hf : fs[k]? = some none) (h : (narrow ty (.int v) = .int v ∧ fits ty (.int v) = true) ∧ WP E S M d (pc + 3) Lo st (k_put σ j (upd (σ j) k v)) Q) : WP E S M d pc Lo (.int v :: .ref j :: st) σ Q := by
  intro p e s m args below meth c H locs ls F hP hS hl
  obtain ⟨C, T, N, ty0, h1, h2, h3, h4, h5, h6, h7, h8⟩ := hL
  refine va_put (D := E.2.1) (v := .int v) F.1 F.2.1 F.2.2.2.2.2.2.1 (fun w q => List.mem_cons_of_mem _ (h3 w q)) ty0 h5 h6 F.2.2.2.2.2.1 F.2.2.2.2.2.2.2.1 hP (k_wD F.2.2.2.2.2.2.2.2.1) hS j (k_cell_o hs) h1 k h2 (k_Alike F h4) (fun _ q => q) h7 h8 h.1.1 h.1.2 (by rw [k_fv_len]; exact (List.getElem?_eq_some_iff.mp hf).1) hd (fun H1 locs1 hP1 hD1 hS1 => ?_)
  refine h.2 p e s m args below meth c H1 locs1 ls F ?_ hS1 hl
  rw [k_fv_set hf] at hP1
  have e1 := k_w_set (E := E) (σ := σ) hs (upd (σ j) k v)
  rw [← e1]
  exact hP1
theorem wp_iald {j n : Nat} {i : Int32} (hd : decode M.2.1 pc = .ok (.iaload, 1)) (hs : S[j]? = some (.inl n)) (h : vp_in i n ∧ WP E S M d (pc + 1) Lo (.int (σ j i.toNatClampNeg) :: st) σ Q) : WP E S M d pc Lo (.int i :: .ref j :: st) σ Q := by
  intro p e s m args below meth c H locs ls F hP hS hl
  exact va_iald (D := E.2.1) F.1 F.2.1 F.2.2.2.2.2.2.2.1 hP j 0 (k_cell_a hs) rfl h.1 hd (h.2 p e s m args below meth c H locs ls F hP hS hl)
theorem wp_iast {j n : Nat} {i x : Int32} (hd : decode M.2.1 pc = .ok (.iastore, 1)) (hs : S[j]? = some (.inl n)) (h : vp_in i n ∧ WP E S M d (pc + 1) Lo st (k_put σ j (upd (σ j) i.toNatClampNeg x)) Q) : WP E S M d pc Lo (.int x :: .int i :: .ref j :: st) σ Q := by
  intro p e s m args below meth c H locs ls F hP hS hl
  refine va_iast (D := E.2.1) F.1 F.2.1 F.2.2.2.2.2.2.2.1 hP (k_wD F.2.2.2.2.2.2.2.2.1) hS j 0 (k_cell_a hs) rfl h.1 hd (fun H1 locs1 hP1 hD1 hS1 => ?_)
  refine h.2 p e s m args below meth c H1 locs1 ls F ?_ hS1 hl
  have e1 := k_w_set (E := E) (σ := σ) hs (upd (σ j) i.toNatClampNeg x)
  rw [← e1]
  exact hP1
theorem wp_alen {j n : Nat} (hd : decode M.2.1 pc = .ok (.arraylength, 1)) (hs : S[j]? = some (.inl n)) (h : WP E S M d (pc + 1) Lo (.int (nI n) :: st) σ Q) : WP E S M d pc Lo (.ref j :: st) σ Q := by
  intro p e s m args below meth c H locs ls F hP hS hl
  exact va_alen (D := E.2.1) F.1 F.2.1 F.2.2.2.2.2.2.2.1 hP j 0 (k_cell_a hs) rfl rfl hd (h p e s m args below meth c H locs ls F hP hS hl)
/-- the tables: ABOVE, BODIES, NAMES -/
theorem wp_gets0 {idx : Nat} (hd : decode M.2.1 pc = .ok (.getstatic idx, 3)) (hL : Cond.fieldLink M.1.cls idx "SoldDays$Kinds" "ABOVE" "[I" ∈ k_gw) (h : WP E S M d (pc + 3) Lo (.ref 1000 :: st) σ Q) : WP E S M d pc Lo st σ Q := by
  intro p e s m args below meth c H locs ls F hP hS hl
  exact va_gets F.1 F.2.1 F.2.2.2.2.2.2.2.2.2.1.1 hS F.2.2.2.2.2.1 (k_Alike F hL) (fun _ q => q) hd (h p e s m args below meth c H locs ls F hP hS hl)
theorem wp_gets1 {idx : Nat} (hd : decode M.2.1 pc = .ok (.getstatic idx, 3)) (hL : Cond.fieldLink M.1.cls idx "SoldDays$Kinds" "BODIES" "[I" ∈ k_gw) (h : WP E S M d (pc + 3) Lo (.ref 1001 :: st) σ Q) : WP E S M d pc Lo st σ Q := by
  intro p e s m args below meth c H locs ls F hP hS hl
  exact va_gets F.1 F.2.1 F.2.2.2.2.2.2.2.2.2.2.1.1 hS F.2.2.2.2.2.1 (k_Alike F hL) (fun _ q => q) hd (h p e s m args below meth c H locs ls F hP hS hl)
theorem wp_gets2 {idx : Nat} (hd : decode M.2.1 pc = .ok (.getstatic idx, 3)) (hL : Cond.fieldLink M.1.cls idx "SoldDays$Reader" "NAMES" "[C" ∈ k_gw) (h : WP E S M d (pc + 3) Lo (.ref 1002 :: st) σ Q) : WP E S M d pc Lo st σ Q := by
  intro p e s m args below meth c H locs ls F hP hS hl
  exact va_gets F.1 F.2.1 F.2.2.2.2.2.2.2.2.2.2.2.1 hS F.2.2.2.2.2.1 (k_Alike F hL) (fun _ q => q) hd (h p e s m args below meth c H locs ls F hP hS hl)
theorem wp_tab0 {i : Int32} (hd : decode M.2.1 pc = .ok (.iaload, 1)) (h : vp_in i 7 ∧ WP E S M d (pc + 1) Lo (.int (k_tv 0 i.toNatClampNeg) :: st) σ Q) : WP E S M d pc Lo (.int i :: .ref 1000 :: st) σ Q := by
  intro p e s m args below meth c H locs ls F hP hS hl
  exact va_ti F.1 F.2.1 F.2.2.2.2.2.2.2.2.2.1.2 hS h.1 rfl hd (h.2 p e s m args below meth c H locs ls F hP hS hl)
theorem wp_tab1 {i : Int32} (hd : decode M.2.1 pc = .ok (.iaload, 1)) (h : vp_in i 28 ∧ WP E S M d (pc + 1) Lo (.int (k_tv 1 i.toNatClampNeg) :: st) σ Q) : WP E S M d pc Lo (.int i :: .ref 1001 :: st) σ Q := by
  intro p e s m args below meth c H locs ls F hP hS hl
  exact va_ti F.1 F.2.1 F.2.2.2.2.2.2.2.2.2.2.1.2 hS h.1 rfl hd (h.2 p e s m args below meth c H locs ls F hP hS hl)
theorem wp_tab2 {i : Int32} (hd : decode M.2.1 pc = .ok (.caload, 1)) (h : vp_in i 6 ∧ WP E S M d (pc + 1) Lo (.int (k_tv 2 i.toNatClampNeg) :: st) σ Q) : WP E S M d pc Lo (.int i :: .ref 1002 :: st) σ Q := by
  intro p e s m args below meth c H locs ls F hP hS hl
  exact va_tc F.1 F.2.1 F.2.2.2.2.2.2.2.2.2.2.2.2 hS h.1 rfl hd (h.2 p e s m args below meth c H locs ls F hP hS hl)
/-- System.arraycopy -/
def k_LC (own : String) (idx : Nat) : Prop := Cond.methodLink own idx arraycopyName ∈ k_gw ∧ Cond.native arraycopyName ∈ k_gw ∧ Cond.static arraycopyName ∈ k_gw ∧ Cond.initialized "java/lang/System" ∈ k_gw
theorem wp_copy {idx a0 a n0 n1 : Nat} {sp dp n : Int32} (hd : decode M.2.1 pc = .ok (.invokestatic idx, 3)) (hL : k_LC M.1.cls idx) (hs0 : S[a0]? = some (.inl n0)) (hs1 : S[a]? = some (.inl n1)) (hst : (st.map fun v => v.category).sum ≤ 8) (h : (¬ sp < 0 ∧ ¬ dp < 0 ∧ ¬ n < 0 ∧ sp.toNatClampNeg + n.toNatClampNeg ≤ n0 ∧ dp.toNatClampNeg + n.toNatClampNeg ≤ n1) ∧ WP E S M d (pc + 3) Lo st (k_put σ a (va_cpy (σ a0) (σ a) sp.toNatClampNeg dp.toNatClampNeg n.toNatClampNeg)) Q) : WP E S M d pc Lo (.int n :: .int dp :: .ref a :: .int sp :: .ref a0 :: st) σ Q := by
  intro p e s m args below meth c H locs ls F hP hS hl
  obtain ⟨g1, g2, g3, g4, g5⟩ := h.1
  refine va_copyi (D := E.2.1) (ty := .int) F.1 F.2.1 (F.2.2.1.trans hl.1.symm) F.2.2.2.2.2.1 (k_Alike F hL.1) (k_Alike F hL.2.1) (k_Alike F hL.2.2.1) (k_Alike F hL.2.2.2) F.2.2.2.2.2.2.2.1 hP (k_wD F.2.2.2.2.2.2.2.2.1) hS a0 a 0 0 (k_cell_a hs0) (k_cell_a hs1) rfl rfl rfl g1 g2 g3 g4 g5 (fun _ _ => rfl) (Nat.succ_le_succ (Nat.zero_le _)) ?_ hd (fun H1 locs1 hP1 hD1 hS1 => ?_)
  · rw [k_cats]
    have e9 : nativeFrameWords "java/lang/System" "arraycopy" 5 = 7 := by decide +kernel
    rw [e9]
    show _ ≤ 40 * (d + 1) + 20
    omega
  · refine h.2 p e s m args below meth c H1 locs1 ls F ?_ hS1 hl
    have e1 := k_w_set (E := E) (σ := σ) hs1 (va_cpy (σ a0) (σ a) sp.toNatClampNeg dp.toNatClampNeg n.toNatClampNeg)
    rw [← e1]
    exact hP1
/-- switches: one place of the table, or none -/
theorem wp_tswIn {dflt lo hi off : Int} {offs : Array Int} {len tgt : Nat} {x : Int32} (hd : decode M.2.1 pc = .ok (.tableswitch dflt lo hi offs, len)) (h1 : ¬ x.toInt < lo) (h2 : ¬ hi < x.toInt) (ho : offs[(x.toInt - lo).toNat]? = some off) (ht : (pc : Int) + off = (tgt : Int)) (h : WP E S M d tgt Lo st σ Q) : WP E S M d pc Lo (.int x :: st) σ Q := by
  intro p e s m args below meth c H locs ls F hP hS hl
  exact lv_tableIn F.1 F.2.1 hd h1 h2 ho ht (h p e s m args below meth c H locs ls F hP hS hl)
theorem wp_tswOut {dflt lo hi : Int} {offs : Array Int} {len tgt : Nat} {x : Int32} (hd : decode M.2.1 pc = .ok (.tableswitch dflt lo hi offs, len)) (h1 : x.toInt < lo ∨ hi < x.toInt) (ht : (pc : Int) + dflt = (tgt : Int)) (h : WP E S M d tgt Lo st σ Q) : WP E S M d pc Lo (.int x :: st) σ Q := by
  intro p e s m args below meth c H locs ls F hP hS hl
  exact lv_tableOut F.1 F.2.1 hd h1 ht (h p e s m args below meth c H locs ls F hP hS hl)
theorem wp_lsw {dflt off : Int} {ps : Array (Int × Int)} {len tgt : Nat} {x : Int32} (hd : decode M.2.1 pc = .ok (.lookupswitch dflt ps, len)) (hp : (ps.toList.zip (ps.toList.drop 1)).all (fun (a, next) => a.1 < next.1) = true) (ho : Op.lookupswitch.offset ps.toList dflt x.toInt = off) (ht : (pc : Int) + off = (tgt : Int)) (h : WP E S M d tgt Lo st σ Q) : WP E S M d pc Lo (.int x :: st) σ Q := by
  intro p e s m args below meth c H locs ls F hP hS hl
  exact lv_lookup F.1 F.2.1 hd hp ho ht (h p e s m args below meth c H locs ls F hP hS hl)
/-- ends -/
theorem wp_ireturn {v : Int32} (hd : decode M.2.1 pc = .ok (.ireturn, 1)) (hr : M.2.2.2 = some .int) (h : Q (some (.int v)) σ) : WP E S M d pc Lo [.int v] σ Q := by
  intro p e s m args below meth c H locs ls F hP hS hl
  refine W.iret F.1 F.2.1 (F.2.2.2.1.trans hr) (fun t ht hW => ⟨⟨some (.int v), σ, rfl, h, ?_⟩, hS.F ht⟩) hS.2.2 hd F.2.2.2.2.1
  exact ⟨by rw [ht]; exact hP, F.2.2.2.2.2.2.2.1.moved hW.alike, k_wD F.2.2.2.2.2.2.2.2.1, by rw [ht]; exact (F.2.2.2.2.2.2.2.2.2.kept hS.2.1).moved hW.alike⟩
theorem wp_zreturn {v : Int32} (hd : decode M.2.1 pc = .ok (.ireturn, 1)) (hr : M.2.2.2 = some .boolean) (h : narrow .boolean (.int v) = .int v ∧ Q (some (.int v)) σ) : WP E S M d pc Lo [.int v] σ Q := by
  intro p e s m args below meth c H locs ls F hP hS hl
  refine W.zret F.1 F.2.1 (F.2.2.2.1.trans hr) h.1 (fun t ht hW => ⟨⟨some (.int v), σ, rfl, h.2, ?_⟩, hS.F ht⟩) hS.2.2 hd F.2.2.2.2.1
  exact ⟨by rw [ht]; exact hP, F.2.2.2.2.2.2.2.1.moved hW.alike, k_wD F.2.2.2.2.2.2.2.2.1, by rw [ht]; exact (F.2.2.2.2.2.2.2.2.2.kept hS.2.1).moved hW.alike⟩
theorem wp_return (hd : decode M.2.1 pc = .ok (.return_, 1)) (hr : M.2.2.2 = none) (h : Q none σ) : WP E S M d pc Lo [] σ Q := by
  intro p e s m args below meth c H locs ls F hP hS hl
  refine W.vret F.1 F.2.1 (F.2.2.2.1.trans hr) (fun t ht hW => ⟨⟨none, σ, rfl, h, ?_⟩, hS.F ht⟩) hS.2.2 hd F.2.2.2.2.1
  exact ⟨by rw [ht]; exact hP, F.2.2.2.2.2.2.2.1.moved hW.alike, k_wD F.2.2.2.2.2.2.2.2.1, by rw [ht]; exact (F.2.2.2.2.2.2.2.2.2.kept hS.2.1).moved hW.alike⟩
theorem wp_areturn {j : Nat} {C : String} (hd : decode M.2.1 pc = .ok (.areturn, 1)) (hr : M.2.2.2 = some (.object C)) (h : Q (some (.ref j)) σ) : WP E S M d pc Lo [.ref j] σ Q := by
  intro p e s m args below meth c H locs ls F hP hS hl
  refine W.aret F.1 F.2.1 (F.2.2.2.1.trans hr) (Or.inl ⟨_, rfl⟩) (Or.inr ⟨_, rfl⟩) (fun t ht hW => ⟨⟨some (.ref j), σ, rfl, h, ?_⟩, hS.F ht⟩) hS.2.2 hd F.2.2.2.2.1
  exact ⟨by rw [ht]; exact hP, F.2.2.2.2.2.2.2.1.moved hW.alike, k_wD F.2.2.2.2.2.2.2.2.1, by rw [ht]; exact (F.2.2.2.2.2.2.2.2.2.kept hS.2.1).moved hW.alike⟩
/-- calls: what the tables say of a method -/
def k_mI (M : KM) (n : Nat) : Prop := Cond.code M.1 M.2.1 M.2.2.1 M.2.2.2 ∈ k_gw ∧ Cond.initialized M.1.cls ∈ k_gw ∧ (M.1.cls ≠ "java/lang/invoke/MethodHandle" ∧ M.1.cls ≠ "java/lang/invoke/VarHandle" ∧ (parseMethodDescriptor M.1.desc).map (fun d => d.parameters.length) = some n) ∧ M.2.2.1 ≤ 21
def k_mV (M : KM) (n : Nat) : Prop := k_mI M n ∧ Cond.instanceMethod M.1 ∈ k_gw ∧ Cond.selects M.1.cls M.1 M.1 ∈ k_gw
def k_mS (M : KM) (n : Nat) : Prop := k_mI M n ∧ Cond.static M.1 ∈ k_gw
theorem k_good {M' : KM} (h : Cond.code M'.1 M'.2.1 M'.2.2.1 M'.2.2.2 ∈ k_gw) : GoodIn (k_ws M) (k_ws M') := by
  intro w hw
  rcases List.mem_cons.mp hw with rfl | hw
  · exact ⟨List.mem_cons_of_mem _ h, good_of_word (List.mem_filter.mp h).2⟩
  · exact ⟨List.mem_cons_of_mem _ hw, good_of_word (List.mem_filter.mp hw).2⟩
theorem k_blind {vs : List Value} {τ : Sg} : FrameBlind (k_Pc E S vs τ) := by
  rintro a U g mk ⟨q0, qP, qK, qD, qS⟩
  exact ⟨q0, qP, va_K.moved (u := U) (U := U.calling g mk a) (Vm.Alike.refl U.vm) qK, qD, k_stat.moved (u := U) (U := U.calling g mk a) (Vm.Alike.refl U.vm) qS⟩
theorem k_callB {R : Room} {s : State} {args : Array Value} {idx n : Nat} {M' : KM} (hts : ∀ w ∈ k_ws M, w.before args s = true) (hm : k_mI M' n) (hl : Cond.methodLink M.1.cls idx M'.1 ∈ k_gw) (hR : R = k_rm (d + 1)) : CallB R s args M.1.cls idx M'.1 M'.2.1 M'.2.2.1 M'.2.2.2 (k_ws M') (k_rm d) 0 0 n := by
  subst hR
  refine callB_of n hts (k_good hm.1) rfl rfl rfl (hts _ (List.mem_cons_of_mem _ hm.2.1)) (hts _ (List.mem_cons_of_mem _ hl)) hm.2.2.1 ⟨Nat.le_refl _, ?_⟩
  have := hm.2.2.2
  show 8 + (M'.2.2.1 + 11) + (40 * (d + 1) + 20) ≤ 40 * (d + 1 + 1) + 20
  omega
theorem k_pre {M' : KM} {s : State} {H : Heap} {locs : List Loc} {vs : List Value} {p : Program} {m : MethodId} {args : Array Value} {meth : Method} {c : Code} (F : k_F E S M p s m args meth c) (hP : va_P E.2.1 vwCl (k_w E S σ) H) (hS : va_S (k_A E S) s.heap H locs) : ∀ U : State, U.heap = H → s.WarmedH U.vm → k_B E S σ U := by
  intro U hU hW
  exact ⟨by rw [hU]; exact hP, F.2.2.2.2.2.2.2.1.moved hW.alike, k_wD F.2.2.2.2.2.2.2.2.1, by rw [hU]; exact (F.2.2.2.2.2.2.2.2.2.kept hS.2.1).moved hW.alike⟩
/-- behind a call, whatever it answers -/
theorem k_after {p : Program} {e : Env} {s : State} {m : MethodId} {args : Array Value} {below : List Frame} {meth : Method} {c : Code} {H : Heap} {locs : List Loc} {ls : Array Slot} {rest : List Value} {st0 : List Value} {a : Array Value} {Q' : Option Value → Sg → Prop} {pc0 : Nat}
    (F : k_F E S M p s m args meth c) (hS : va_S (k_A E S) s.heap H locs) (hl : lv_has ls M.2.2.1 (k_as E.2.2.1 Lo))
    (hr : va_Run p E.1 e (k_rm (d + 1)) s m args below meth c H locs 0 0 0 0 (F0 m pc0 ls st0) (rest.map (k_cv E.2.2.1)) (k_Qc E S Q' a) (k_A E S))
    (h : ∀ v σ', Q' v σ' → WP E S M (d + 1) (pc0 + 3) Lo (v.toList ++ rest) σ' Q) :
    W p E.1 e (k_rm (d + 1)) s m args below meth c H locs 0 0 (MQ below (k_Qc E S Q) args s 0 0 (k_A E S)) (F0 m pc0 ls st0) := by
  intro T hT X
  obtain ⟨v, st₀, t, T', L, h0, X', hL, e1, e2, ⟨⟨v', σ', hv, hq, hB⟩, hz, hk⟩, st⟩ := hr T hT X
  have hv' : v = v'.map (k_cv E.2.2.1) := by cases hv; rfl
  rw [h0] at hz hk
  have hP1 : va_P E.2.1 vwCl (k_w E S σ') T'.heap := by rw [e1]; exact hB.1
  have hS1 : va_S (k_A E S) s.heap T'.heap (locs ++ L) := ⟨Nat.le_trans hS.1 (by rw [e1]; exact hz), fun q h1 h2 => by rw [e1, hk q (Nat.lt_of_lt_of_le h1 hS.1) h2]; exact hS.2.1 q h1 h2, fun q hq => by
      rcases List.mem_append.mp hq with h | h
      · exact hS.2.2 q h
      · exact hL q h⟩
  have := h v' σ' hq p e s m args below meth c T'.heap (locs ++ L) ls F hP1 hS1 hl
  have est : (v'.toList ++ rest).map (k_cv E.2.2.1) = v.toList ++ rest.map (k_cv E.2.2.1) := by
    rw [hv']
    cases v' <;> simp
  rw [est] at this
  obtain ⟨t2, a1, b1⟩ := this T' rfl X'
  exact ⟨t2, st t2 a1, b1⟩
theorem wp_callV {M' : KM} {b ci idx n : Nat} {fs : List (Option Nat)} {vs rest : List Value} {T : u_T} {N : Nat} (hd : decode M.2.1 pc = .ok (.invokevirtual idx, 3)) (hm : k_mV M' n) (hl : Cond.methodLink M.1.cls idx M'.1 ∈ k_gw) (hs : S[b]? = some (.inr (ci, fs))) (hc : vwCl[ci]? = some (M'.1.cls, T, N)) (hn : vs.length = n) (hst : vs.reverse ++ .ref b :: rest = st) (hw : (rest.map fun v => v.category).sum ≤ 8)
    (h : Call E S d M' (.ref b :: vs) σ (fun v σ' => WP E S M (d + 1) (pc + 3) Lo (v.toList ++ rest) σ' Q)) : WP E S M (d + 1) pc Lo st σ Q := by
  subst hst
  intro p e s m args below meth c H locs ls F hP hS hlo
  have cw : CallW (k_rm (d + 1)) s args M.1.cls M'.1.cls idx M'.1 M'.2.1 M'.2.2.1 M'.2.2.2 (k_ws M') (k_rm d) 0 0 n := ⟨k_callB F.2.2.2.2.2.2.1 hm.1 hl rfl, k_Alike F hm.2.1, k_Alike F hm.2.2⟩
  obtain ⟨r, hr1, cell, q1, q2, q3, q4⟩ := hP b _ (k_cell_o hs)
  have hrr : r = (M'.1.cls, T, N) := Option.some.inj (hr1.symm.trans hc)
  subst hrr
  obtain ⟨hSl, hfc, kC, hkC, hkind⟩ := F.2.2.2.2.2.2.2.1.1 ci _ hc
  have run := va_runV (As := vs.map (k_cv E.2.2.1)) (rest := rest.map (k_cv E.2.2.1)) (b := E.2.2.1 b) (g := F0 m pc ls ((vs.reverse ++ .ref b :: rest).map (k_cv E.2.2.1))) (cells := 0) (slots := 0) (e := e) (below := below) (locs := locs)
    (meth := meth) (H := H) ⟨F.1, F.2.1, F.2.2.1, F.2.2.2.2.2.1, F.2.2.2.2.2.2.1⟩ h cw ⟨k_blind, ⟨cell, q1, by rw [q3]; rfl, by rw [q2]; exact hfc⟩, fun U hU hW => ⟨rfl, k_pre (M' := M') (vs := vs) F hP hS U hU hW⟩⟩ rfl (by rw [List.length_map]; exact hn) hlo.1 (by simp [k_cv]) (by show 2 * 0 + _ ≤ 8; rw [k_cats]; omega) hd ⟨Nat.zero_le _, Nat.zero_le _⟩
  exact k_after F hS hlo run (fun v σ' q => q)
theorem wp_callS {M' : KM} {idx n : Nat} {vs rest : List Value} (hd : decode M.2.1 pc = .ok (.invokestatic idx, 3)) (hm : k_mS M' n) (hl : Cond.methodLink M.1.cls idx M'.1 ∈ k_gw) (hn : vs.length = n) (hst : vs.reverse ++ rest = st) (hw : (rest.map fun v => v.category).sum ≤ 8)
    (h : Call E S d M' vs σ (fun v σ' => WP E S M (d + 1) (pc + 3) Lo (v.toList ++ rest) σ' Q)) : WP E S M (d + 1) pc Lo st σ Q := by
  subst hst
  intro p e s m args below meth c H locs ls F hP hS hlo
  have run := va_runS (As := vs.map (k_cv E.2.2.1)) (rest := rest.map (k_cv E.2.2.1)) (g := F0 m pc ls ((vs.reverse ++ rest).map (k_cv E.2.2.1))) (cells := 0) (slots := 0) (e := e) (below := below) (locs := locs)
    (meth := meth) (H := H) ⟨F.1, F.2.1, F.2.2.1, F.2.2.2.2.2.1, F.2.2.2.2.2.2.1⟩ h ⟨k_callB F.2.2.2.2.2.2.1 hm.1 hl rfl, k_Alike F hm.2⟩ ⟨k_blind, fun U hU hW => ⟨rfl, k_pre (M' := M') (vs := vs) F hP hS U hU hW⟩⟩ rfl (by rw [List.length_map]; exact hn) hlo.1 (by simp) (by show 2 * 0 + _ ≤ 8; rw [k_cats]; omega) hd ⟨Nat.zero_le _, Nat.zero_le _⟩
  exact k_after F hS hlo run (fun v σ' q => q)
end R2
end
section
theorem iX1 : ∀ w ∈ u_ws RX1 TX1 6, w ∈ k_gw := by decide +kernel
theorem iX2 : ∀ w ∈ u_ws RX2 TX2 4, w ∈ k_gw := by decide +kernel
theorem iX3 : ∀ w ∈ u_ws RX3 TX3 5, w ∈ k_gw := by decide +kernel
theorem iX4 : ∀ w ∈ u_ws RX4 TX4 2, w ∈ k_gw := by decide +kernel
theorem iX5 : ∀ w ∈ u_ws RX5 TX5 3, w ∈ k_gw := by decide +kernel
theorem iX6 : ∀ w ∈ u_ws RX6 TX6 2, w ∈ k_gw := by decide +kernel
theorem iX7 : ∀ w ∈ u_ws RX7 TX7 3, w ∈ k_gw := by decide +kernel
theorem iX8 : ∀ w ∈ u_ws RX8 TX8 5, w ∈ k_gw := by decide +kernel
theorem iX9 : ∀ w ∈ u_ws RX9 TX9 12, w ∈ k_gw := by decide +kernel
theorem iX10 : ∀ w ∈ u_ws RX10 TX10 8, w ∈ k_gw := by decide +kernel
theorem iX11 : ∀ w ∈ u_ws RX11 TX11 24, w ∈ k_gw := by decide +kernel
theorem lm_X0_11 : Cond.methodLink RX0 11 yX0_isKind ∈ k_gw := k_at 430 (by decide +kernel) rfl
theorem ls_X0_15 : Cond.fieldLink RX0 15 "SoldDays$Kinds" "ABOVE" "[I" ∈ k_gw := k_at 431 (by decide +kernel) rfl
theorem lm_X0_19 : Cond.methodLink RX0 19 yX0_above ∈ k_gw := k_at 427 (by decide +kernel) rfl
theorem lm_X0_23 : Cond.methodLink RX0 23 yX0_bodyOf ∈ k_gw := k_at 818 (by decide +kernel) rfl
theorem ls_X0_27 : Cond.fieldLink RX0 27 "SoldDays$Kinds" "BODIES" "[I" ∈ k_gw := k_at 821 (by decide +kernel) rfl
theorem lf_X1_9 : k_LF RX1 9 0 0 := ⟨RX1, TX1, 6, rfl, by decide, iX1, k_at 107 (by decide +kernel) rfl⟩
theorem lf_X1_15 : k_LF RX1 15 0 1 := ⟨RX1, TX1, 6, rfl, by decide, iX1, k_at 110 (by decide +kernel) rfl⟩
theorem lf_X1_18 : k_LF RX1 18 0 2 := ⟨RX1, TX1, 6, rfl, by decide, iX1, k_at 113 (by decide +kernel) rfl⟩
theorem lf_X1_21 : k_LF RX1 21 0 3 := ⟨RX1, TX1, 6, rfl, by decide, iX1, k_at 116 (by decide +kernel) rfl⟩
theorem lf_X1_24 : k_LF RX1 24 0 4 := ⟨RX1, TX1, 6, rfl, by decide, iX1, k_at 120 (by decide +kernel) rfl⟩
theorem lf_X1_27 : k_LF RX1 27 0 5 := ⟨RX1, TX1, 6, rfl, by decide, iX1, k_at 121 (by decide +kernel) rfl⟩
theorem lp_X1_27 : k_LP RX1 27 0 5 .int := ⟨RX1, TX1, 6, tyX1, rfl, by decide, iX1, k_at 121 (by decide +kernel) rfl, tyX1_ok, nmX1, rfl, by decide +kernel⟩
theorem lm_X1_31 : Cond.methodLink RX1 31 yX1_knows ∈ k_gw := k_at 494 (by decide +kernel) rfl
theorem lm_X1_35 : Cond.methodLink RX1 35 yX1_setKind ∈ k_gw := k_at 378 (by decide +kernel) rfl
theorem lm_X1_39 : Cond.methodLink RX1 39 yX1_setTimes ∈ k_gw := k_at 382 (by decide +kernel) rfl
theorem lm_X1_43 : Cond.methodLink RX1 43 yX1_timesOf ∈ k_gw := k_at 405 (by decide +kernel) rfl
theorem lm_X1_47 : Cond.methodLink RX1 47 yX0_lives ∈ k_gw := k_at 409 (by decide +kernel) rfl
theorem lm_X1_53 : Cond.methodLink RX1 53 yX1_livesOf ∈ k_gw := k_at 541 (by decide +kernel) rfl
theorem lm_X1_56 : Cond.methodLink RX1 56 yX1_isUp ∈ k_gw := k_at 682 (by decide +kernel) rfl
theorem lc_X1_60_copy : k_LC RX1 60 := ⟨k_at 889 (by decide +kernel) rfl, k_at 568 (by decide +kernel) rfl, k_at 567 (by decide +kernel) rfl, k_at 85 (by decide +kernel) rfl⟩
theorem lf_X2_9 : k_LF RX2 9 1 0 := ⟨RX2, TX2, 4, rfl, by decide, iX2, k_at 145 (by decide +kernel) rfl⟩
theorem lf_X2_15 : k_LF RX2 15 1 1 := ⟨RX2, TX2, 4, rfl, by decide, iX2, k_at 147 (by decide +kernel) rfl⟩
theorem lf_X2_18 : k_LF RX2 18 1 2 := ⟨RX2, TX2, 4, rfl, by decide, iX2, k_at 149 (by decide +kernel) rfl⟩
theorem lf_X2_21 : k_LF RX2 21 1 3 := ⟨RX2, TX2, 4, rfl, by decide, iX2, k_at 153 (by decide +kernel) rfl⟩
theorem lp_X2_21 : k_LP RX2 21 1 3 .int := ⟨RX2, TX2, 4, tyX2, rfl, by decide, iX2, k_at 153 (by decide +kernel) rfl, tyX2_ok, nmX2, rfl, by decide +kernel⟩
theorem lm_X2_25 : Cond.methodLink RX2 25 yX1_isUp ∈ k_gw := k_at 537 (by decide +kernel) rfl
theorem lm_X2_31 : Cond.methodLink RX2 31 yX2_isKept ∈ k_gw := k_at 765 (by decide +kernel) rfl
theorem lc_X2_35_copy : k_LC RX2 35 := ⟨k_at 894 (by decide +kernel) rfl, k_at 568 (by decide +kernel) rfl, k_at 567 (by decide +kernel) rfl, k_at 85 (by decide +kernel) rfl⟩
theorem lf_X3_14 : k_LF RX3 14 2 0 := ⟨RX3, TX3, 5, rfl, by decide, iX3, k_at 260 (by decide +kernel) rfl⟩
theorem lf_X3_20 : k_LF RX3 20 2 1 := ⟨RX3, TX3, 5, rfl, by decide, iX3, k_at 262 (by decide +kernel) rfl⟩
theorem lf_X3_23 : k_LF RX3 23 2 2 := ⟨RX3, TX3, 5, rfl, by decide, iX3, k_at 263 (by decide +kernel) rfl⟩
theorem lp_X3_23 : k_LP RX3 23 2 2 .int := ⟨RX3, TX3, 5, tyX3, rfl, by decide, iX3, k_at 263 (by decide +kernel) rfl, tyX3_ok, nmX3, rfl, by decide +kernel⟩
theorem lf_X3_27 : k_LF RX3 27 2 3 := ⟨RX3, TX3, 5, rfl, by decide, iX3, k_at 264 (by decide +kernel) rfl⟩
theorem lp_X3_27 : k_LP RX3 27 2 3 .int := ⟨RX3, TX3, 5, tyX3, rfl, by decide, iX3, k_at 264 (by decide +kernel) rfl, tyX3_ok, nmX3, rfl, by decide +kernel⟩
theorem lf_X3_30 : k_LF RX3 30 2 4 := ⟨RX3, TX3, 5, rfl, by decide, iX3, k_at 265 (by decide +kernel) rfl⟩
theorem lp_X3_30 : k_LP RX3 30 2 4 .int := ⟨RX3, TX3, 5, tyX3, rfl, by decide, iX3, k_at 265 (by decide +kernel) rfl, tyX3_ok, nmX3, rfl, by decide +kernel⟩
theorem lm_X3_33 : Cond.methodLink RX3 33 yX4_copyFrom ∈ k_gw := k_at 561 (by decide +kernel) rfl
theorem lf_X3_37 : k_LF RX3 37 3 1 := ⟨RX4, TX4, 2, rfl, by decide, iX4, k_at 185 (by decide +kernel) rfl⟩
theorem lp_X3_37 : k_LP RX3 37 3 1 .int := ⟨RX4, TX4, 2, tyX4, rfl, by decide, iX4, k_at 185 (by decide +kernel) rfl, tyX4_ok, nmX4, rfl, by decide +kernel⟩
theorem lm_X3_40 : Cond.methodLink RX3 40 yX3_readLevel ∈ k_gw := k_at 569 (by decide +kernel) rfl
theorem lm_X3_44 : Cond.methodLink RX3 44 yX3_stopHere ∈ k_gw := k_at 599 (by decide +kernel) rfl
theorem lm_X3_47 : Cond.methodLink RX3 47 yX3_readQ ∈ k_gw := k_at 573 (by decide +kernel) rfl
theorem lm_X3_50 : Cond.methodLink RX3 50 yX3_here ∈ k_gw := k_at 583 (by decide +kernel) rfl
theorem lm_X3_54 : Cond.methodLink RX3 54 yX3_isSignOf ∈ k_gw := k_at 603 (by decide +kernel) rfl
theorem lm_X3_60 : Cond.methodLink RX3 60 yX4_add ∈ k_gw := k_at 594 (by decide +kernel) rfl
theorem lm_X3_63 : Cond.methodLink RX3 63 yX3_nameHere ∈ k_gw := k_at 577 (by decide +kernel) rfl
theorem lm_X3_66 : Cond.methodLink RX3 66 yX3_isDigit ∈ k_gw := k_at 587 (by decide +kernel) rfl
theorem lm_X3_70 : Cond.methodLink RX3 70 yX3_readNumber ∈ k_gw := k_at 590 (by decide +kernel) rfl
theorem lm_X3_73 : Cond.methodLink RX3 73 yX3_readClosing ∈ k_gw := k_at 595 (by decide +kernel) rfl
theorem lf_X3_76 : k_LF RX3 76 3 0 := ⟨RX4, TX4, 2, rfl, by decide, iX4, k_at 180 (by decide +kernel) rfl⟩
theorem ls_X3_80 : Cond.fieldLink RX3 80 "SoldDays$Reader" "NAMES" "[C" ∈ k_gw := k_at 581 (by decide +kernel) rfl
theorem lf_X4_7 : k_LF RX4 7 3 0 := ⟨RX4, TX4, 2, rfl, by decide, iX4, k_at 178 (by decide +kernel) rfl⟩
theorem lf_X4_13 : k_LF RX4 13 3 1 := ⟨RX4, TX4, 2, rfl, by decide, iX4, k_at 182 (by decide +kernel) rfl⟩
theorem lp_X4_13 : k_LP RX4 13 3 1 .int := ⟨RX4, TX4, 2, tyX4, rfl, by decide, iX4, k_at 182 (by decide +kernel) rfl, tyX4_ok, nmX4, rfl, by decide +kernel⟩
theorem lm_X4_17 : Cond.methodLink RX4 17 yJ9_min_7cf53 ∈ k_gw := k_at 565 (by decide +kernel) rfl
theorem lc_X4_23_copy : k_LC RX4 23 := ⟨k_at 566 (by decide +kernel) rfl, k_at 568 (by decide +kernel) rfl, k_at 567 (by decide +kernel) rfl, k_at 85 (by decide +kernel) rfl⟩
theorem lf_X5_9 : k_LF RX5 9 4 0 := ⟨RX5, TX5, 3, rfl, by decide, iX5, k_at 325 (by decide +kernel) rfl⟩
theorem lf_X5_15 : k_LF RX5 15 4 1 := ⟨RX5, TX5, 3, rfl, by decide, iX5, k_at 327 (by decide +kernel) rfl⟩
theorem lf_X5_18 : k_LF RX5 18 4 2 := ⟨RX5, TX5, 3, rfl, by decide, iX5, k_at 329 (by decide +kernel) rfl⟩
theorem lc_X5_21_copy : k_LC RX5 21 := ⟨k_at 867 (by decide +kernel) rfl, k_at 568 (by decide +kernel) rfl, k_at 567 (by decide +kernel) rfl, k_at 85 (by decide +kernel) rfl⟩
theorem lf_X6_14 : k_LF RX6 14 5 0 := ⟨RX6, TX6, 2, rfl, by decide, iX6, k_at 192 (by decide +kernel) rfl⟩
theorem lf_X6_20 : k_LF RX6 20 5 1 := ⟨RX6, TX6, 2, rfl, by decide, iX6, k_at 195 (by decide +kernel) rfl⟩
theorem lf_X6_24 : k_LF RX6 24 3 1 := ⟨RX4, TX4, 2, rfl, by decide, iX4, k_at 183 (by decide +kernel) rfl⟩
theorem lf_X6_28 : k_LF RX6 28 3 0 := ⟨RX4, TX4, 2, rfl, by decide, iX4, k_at 179 (by decide +kernel) rfl⟩
theorem lm_X6_31 : Cond.methodLink RX6 31 yX6_operand ∈ k_gw := k_at 471 (by decide +kernel) rfl
theorem lm_X6_35 : Cond.methodLink RX6 35 yX6_joined ∈ k_gw := k_at 474 (by decide +kernel) rfl
theorem lf_X7_9 : k_LF RX7 9 6 0 := ⟨RX7, TX7, 3, rfl, by decide, iX7, k_at 283 (by decide +kernel) rfl⟩
theorem lf_X7_15 : k_LF RX7 15 6 1 := ⟨RX7, TX7, 3, rfl, by decide, iX7, k_at 284 (by decide +kernel) rfl⟩
theorem lf_X7_18 : k_LF RX7 18 6 2 := ⟨RX7, TX7, 3, rfl, by decide, iX7, k_at 285 (by decide +kernel) rfl⟩
theorem lf_X7_21 : k_LF RX7 21 0 5 := ⟨RX1, TX1, 6, rfl, by decide, iX1, k_at 122 (by decide +kernel) rfl⟩
theorem lm_X7_27 : Cond.methodLink RX7 27 yX1_upDays ∈ k_gw := k_at 699 (by decide +kernel) rfl
theorem lm_X7_30 : Cond.methodLink RX7 30 yJ6_bitCount_0f7a4 ∈ k_gw := k_at 700 (by decide +kernel) rfl
theorem lm_X7_35 : Cond.methodLink RX7 35 yX7_daysKeptBy ∈ k_gw := k_at 706 (by decide +kernel) rfl
theorem lc_X7_38 : Cond.constant RX7 38 (nI 268435455) ∈ k_gw := k_at 710 (by decide +kernel) rfl
theorem lm_X7_39 : Cond.methodLink RX7 39 yX9_priceOf ∈ k_gw := k_at 720 (by decide +kernel) rfl
theorem lf_X7_45 : k_LF RX7 45 8 0 := ⟨RX9, TX9, 12, rfl, by decide, iX9, k_at 204 (by decide +kernel) rfl⟩
theorem lm_X7_49 : Cond.methodLink RX7 49 yX1_timesOf ∈ k_gw := k_at 721 (by decide +kernel) rfl
theorem lf_X7_52 : k_LF RX7 52 0 3 := ⟨RX1, TX1, 6, rfl, by decide, iX1, k_at 117 (by decide +kernel) rfl⟩
theorem lm_X7_55 : Cond.methodLink RX7 55 yX7_leastOf ∈ k_gw := k_at 722 (by decide +kernel) rfl
theorem lm_X7_58 : Cond.methodLink RX7 58 yX7_harmOf ∈ k_gw := k_at 742 (by decide +kernel) rfl
theorem lm_X7_62 : Cond.methodLink RX7 62 yX1_isUpIfHad ∈ k_gw := k_at 745 (by decide +kernel) rfl
theorem lf_X7_66 : k_LF RX7 66 8 1 := ⟨RX9, TX9, 12, rfl, by decide, iX9, k_at 207 (by decide +kernel) rfl⟩
theorem lf_X7_70 : k_LF RX7 70 1 3 := ⟨RX2, TX2, 4, rfl, by decide, iX2, k_at 154 (by decide +kernel) rfl⟩
theorem lf_X7_73 : k_LF RX7 73 1 2 := ⟨RX2, TX2, 4, rfl, by decide, iX2, k_at 150 (by decide +kernel) rfl⟩
theorem lm_X7_76 : Cond.methodLink RX7 76 yX2_isOf ∈ k_gw := k_at 749 (by decide +kernel) rfl
theorem lm_X7_80 : Cond.methodLink RX7 80 yX2_isKept ∈ k_gw := k_at 753 (by decide +kernel) rfl
theorem lm_X7_84 : Cond.methodLink RX7 84 yX7_isLess ∈ k_gw := k_at 726 (by decide +kernel) rfl
theorem lm_X7_87 : Cond.methodLink RX7 87 yX7_sumOver ∈ k_gw := k_at 758 (by decide +kernel) rfl
theorem lf_X8_14 : k_LF RX8 14 7 0 := ⟨RX8, TX8, 5, rfl, by decide, iX8, k_at 301 (by decide +kernel) rfl⟩
theorem lf_X8_20 : k_LF RX8 20 7 1 := ⟨RX8, TX8, 5, rfl, by decide, iX8, k_at 303 (by decide +kernel) rfl⟩
theorem lp_X8_20 : k_LP RX8 20 7 1 .boolean := ⟨RX8, TX8, 5, tyX8, rfl, by decide, iX8, k_at 303 (by decide +kernel) rfl, tyX8_ok, nmX8, rfl, by decide +kernel⟩
theorem lf_X8_24 : k_LF RX8 24 7 2 := ⟨RX8, TX8, 5, rfl, by decide, iX8, k_at 305 (by decide +kernel) rfl⟩
theorem lp_X8_24 : k_LP RX8 24 7 2 .int := ⟨RX8, TX8, 5, tyX8, rfl, by decide, iX8, k_at 305 (by decide +kernel) rfl, tyX8_ok, nmX8, rfl, by decide +kernel⟩
theorem lf_X8_28 : k_LF RX8 28 7 3 := ⟨RX8, TX8, 5, rfl, by decide, iX8, k_at 306 (by decide +kernel) rfl⟩
theorem lp_X8_28 : k_LP RX8 28 7 3 .int := ⟨RX8, TX8, 5, tyX8, rfl, by decide, iX8, k_at 306 (by decide +kernel) rfl, tyX8_ok, nmX8, rfl, by decide +kernel⟩
theorem lf_X8_31 : k_LF RX8 31 7 4 := ⟨RX8, TX8, 5, rfl, by decide, iX8, k_at 307 (by decide +kernel) rfl⟩
theorem lp_X8_31 : k_LP RX8 31 7 4 .int := ⟨RX8, TX8, 5, tyX8, rfl, by decide, iX8, k_at 307 (by decide +kernel) rfl, tyX8_ok, nmX8, rfl, by decide +kernel⟩
theorem lf_X8_34 : k_LF RX8 34 3 1 := ⟨RX4, TX4, 2, rfl, by decide, iX4, k_at 184 (by decide +kernel) rfl⟩
theorem lp_X8_34 : k_LP RX8 34 3 1 .int := ⟨RX4, TX4, 2, tyX4, rfl, by decide, iX4, k_at 184 (by decide +kernel) rfl, tyX4_ok, nmX4, rfl, by decide +kernel⟩
theorem lf_X8_37 : k_LF RX8 37 0 0 := ⟨RX1, TX1, 6, rfl, by decide, iX1, k_at 108 (by decide +kernel) rfl⟩
theorem lf_X8_43 : k_LF RX8 43 0 1 := ⟨RX1, TX1, 6, rfl, by decide, iX1, k_at 111 (by decide +kernel) rfl⟩
theorem lm_X8_46 : Cond.methodLink RX8 46 yX8_sound ∈ k_gw := k_at 811 (by decide +kernel) rfl
theorem lm_X8_50 : Cond.methodLink RX8 50 yX0_speaker ∈ k_gw := k_at 815 (by decide +kernel) rfl
theorem lm_X8_56 : Cond.methodLink RX8 56 yX0_above ∈ k_gw := k_at 823 (by decide +kernel) rfl
theorem lm_X8_60 : Cond.methodLink RX8 60 yX0_bodyOf ∈ k_gw := k_at 824 (by decide +kernel) rfl
theorem lm_X8_63 : Cond.methodLink RX8 63 yX4_add ∈ k_gw := k_at 825 (by decide +kernel) rfl
theorem lm_X8_66 : Cond.methodLink RX8 66 yX8_own ∈ k_gw := k_at 826 (by decide +kernel) rfl
theorem lm_X8_70 : Cond.methodLink RX8 70 yX8_part ∈ k_gw := k_at 827 (by decide +kernel) rfl
theorem lm_X8_73 : Cond.methodLink RX8 73 yX8_partAndTrade ∈ k_gw := k_at 831 (by decide +kernel) rfl
theorem lf_X9_12 : k_LF RX9 12 8 0 := ⟨RX9, TX9, 12, rfl, by decide, iX9, k_at 203 (by decide +kernel) rfl⟩
theorem lf_X9_21 : k_LF RX9 21 8 1 := ⟨RX9, TX9, 12, rfl, by decide, iX9, k_at 206 (by decide +kernel) rfl⟩
theorem lf_X9_28 : k_LF RX9 28 8 2 := ⟨RX9, TX9, 12, rfl, by decide, iX9, k_at 209 (by decide +kernel) rfl⟩
theorem lf_X9_32 : k_LF RX9 32 8 3 := ⟨RX9, TX9, 12, rfl, by decide, iX9, k_at 210 (by decide +kernel) rfl⟩
theorem lf_X9_40 : k_LF RX9 40 8 4 := ⟨RX9, TX9, 12, rfl, by decide, iX9, k_at 211 (by decide +kernel) rfl⟩
theorem lf_X9_44 : k_LF RX9 44 8 5 := ⟨RX9, TX9, 12, rfl, by decide, iX9, k_at 213 (by decide +kernel) rfl⟩
theorem lf_X9_47 : k_LF RX9 47 8 6 := ⟨RX9, TX9, 12, rfl, by decide, iX9, k_at 215 (by decide +kernel) rfl⟩
theorem lp_X9_47 : k_LP RX9 47 8 6 .int := ⟨RX9, TX9, 12, tyX9, rfl, by decide, iX9, k_at 215 (by decide +kernel) rfl, tyX9_ok, nmX9, rfl, by decide +kernel⟩
theorem lf_X9_51 : k_LF RX9 51 8 7 := ⟨RX9, TX9, 12, rfl, by decide, iX9, k_at 217 (by decide +kernel) rfl⟩
theorem lp_X9_51 : k_LP RX9 51 8 7 .int := ⟨RX9, TX9, 12, tyX9, rfl, by decide, iX9, k_at 217 (by decide +kernel) rfl, tyX9_ok, nmX9, rfl, by decide +kernel⟩
theorem lf_X9_54 : k_LF RX9 54 8 8 := ⟨RX9, TX9, 12, rfl, by decide, iX9, k_at 219 (by decide +kernel) rfl⟩
theorem lp_X9_54 : k_LP RX9 54 8 8 .int := ⟨RX9, TX9, 12, tyX9, rfl, by decide, iX9, k_at 219 (by decide +kernel) rfl, tyX9_ok, nmX9, rfl, by decide +kernel⟩
theorem lf_X9_57 : k_LF RX9 57 8 9 := ⟨RX9, TX9, 12, rfl, by decide, iX9, k_at 221 (by decide +kernel) rfl⟩
theorem lp_X9_57 : k_LP RX9 57 8 9 .int := ⟨RX9, TX9, 12, tyX9, rfl, by decide, iX9, k_at 221 (by decide +kernel) rfl, tyX9_ok, nmX9, rfl, by decide +kernel⟩
theorem lf_X9_60 : k_LF RX9 60 8 10 := ⟨RX9, TX9, 12, rfl, by decide, iX9, k_at 223 (by decide +kernel) rfl⟩
theorem lp_X9_60 : k_LP RX9 60 8 10 .int := ⟨RX9, TX9, 12, tyX9, rfl, by decide, iX9, k_at 223 (by decide +kernel) rfl, tyX9_ok, nmX9, rfl, by decide +kernel⟩
theorem lf_X9_63 : k_LF RX9 63 8 11 := ⟨RX9, TX9, 12, rfl, by decide, iX9, k_at 225 (by decide +kernel) rfl⟩
theorem lp_X9_63 : k_LP RX9 63 8 11 .int := ⟨RX9, TX9, 12, tyX9, rfl, by decide, iX9, k_at 225 (by decide +kernel) rfl, tyX9_ok, nmX9, rfl, by decide +kernel⟩
theorem lm_X9_66 : Cond.methodLink RX9 66 yX6_isThere ∈ k_gw := k_at 463 (by decide +kernel) rfl
theorem lm_X9_70 : Cond.methodLink RX9 70 yX6_gives ∈ k_gw := k_at 467 (by decide +kernel) rfl
theorem lm_X9_74 : Cond.methodLink RX9 74 yX9_held ∈ k_gw := k_at 477 (by decide +kernel) rfl
theorem lm_X9_78 : Cond.methodLink RX9 78 yJ9_min_7cf53 ∈ k_gw := k_at 480 (by decide +kernel) rfl
theorem lm_X9_83 : Cond.methodLink RX9 83 yJ9_max_7cf53 ∈ k_gw := k_at 483 (by decide +kernel) rfl
theorem lm_X9_86 : Cond.methodLink RX9 86 yX1_timesOf ∈ k_gw := k_at 458 (by decide +kernel) rfl
theorem lm_X9_89 : Cond.methodLink RX9 89 yX9_useGives ∈ k_gw := k_at 459 (by decide +kernel) rfl
theorem lm_X9_93 : Cond.methodLink RX9 93 yX9_dayCanPass ∈ k_gw := k_at 499 (by decide +kernel) rfl
theorem lm_X9_97 : Cond.methodLink RX9 97 yX9_priceOf ∈ k_gw := k_at 503 (by decide +kernel) rfl
theorem lm_X9_100 : Cond.methodLink RX9 100 yX9_canPay ∈ k_gw := k_at 504 (by decide +kernel) rfl
theorem lf_X9_103 : k_LF RX9 103 0 3 := ⟨RX1, TX1, 6, rfl, by decide, iX1, k_at 119 (by decide +kernel) rfl⟩
theorem lm_X9_107 : Cond.methodLink RX9 107 yX1_setTimes ∈ k_gw := k_at 512 (by decide +kernel) rfl
theorem lf_X9_111 : k_LF RX9 111 0 5 := ⟨RX1, TX1, 6, rfl, by decide, iX1, k_at 124 (by decide +kernel) rfl⟩
theorem lm_X9_114 : Cond.methodLink RX9 114 yX9_draw ∈ k_gw := k_at 657 (by decide +kernel) rfl
theorem lm_X9_118 : Cond.methodLink RX9 118 yX9_saleCanBe ∈ k_gw := k_at 662 (by decide +kernel) rfl
theorem lm_X9_121 : Cond.methodLink RX9 121 yX9_makeSale ∈ k_gw := k_at 663 (by decide +kernel) rfl
theorem lc_X9_124 : Cond.constant RX9 124 (nI 1103515245) ∈ k_gw := k_at 661 (by decide +kernel) rfl
theorem lm_X9_125 : Cond.methodLink RX9 125 yX9_dayIn ∈ k_gw := k_at 629 (by decide +kernel) rfl
theorem lm_X9_129 : Cond.methodLink RX9 129 yX1_livesOf ∈ k_gw := k_at 630 (by decide +kernel) rfl
theorem lm_X9_132 : Cond.methodLink RX9 132 yX9_letOneLive ∈ k_gw := k_at 631 (by decide +kernel) rfl
theorem lm_X9_135 : Cond.methodLink RX9 135 yX9_settlePromises ∈ k_gw := k_at 644 (by decide +kernel) rfl
theorem lm_X9_138 : Cond.methodLink RX9 138 yX9_oneMore ∈ k_gw := k_at 641 (by decide +kernel) rfl
theorem lf_X9_141 : k_LF RX9 141 0 2 := ⟨RX1, TX1, 6, rfl, by decide, iX1, k_at 115 (by decide +kernel) rfl⟩
theorem lm_X9_144 : Cond.methodLink RX9 144 yX9_older ∈ k_gw := k_at 635 (by decide +kernel) rfl
theorem lm_X9_147 : Cond.methodLink RX9 147 yX9_poorer ∈ k_gw := k_at 638 (by decide +kernel) rfl
theorem lf_X9_150 : k_LF RX9 150 1 3 := ⟨RX2, TX2, 4, rfl, by decide, iX2, k_at 155 (by decide +kernel) rfl⟩
theorem lf_X9_151 : k_LF RX9 151 1 2 := ⟨RX2, TX2, 4, rfl, by decide, iX2, k_at 151 (by decide +kernel) rfl⟩
theorem lm_X9_154 : Cond.methodLink RX9 154 yX2_isKept ∈ k_gw := k_at 648 (by decide +kernel) rfl
theorem lm_X9_158 : Cond.methodLink RX9 158 yX1_copyFrom ∈ k_gw := k_at 885 (by decide +kernel) rfl
theorem lm_X9_162 : Cond.methodLink RX9 162 yX2_copyFrom ∈ k_gw := k_at 890 (by decide +kernel) rfl
theorem lf_X9_165 : k_LF RX9 165 5 0 := ⟨RX6, TX6, 2, rfl, by decide, iX6, k_at 194 (by decide +kernel) rfl⟩
theorem lm_X9_168 : Cond.methodLink RX9 168 yX4_copyFrom ∈ k_gw := k_at 895 (by decide +kernel) rfl
theorem lf_X10_10 : k_LF RX10 10 9 0 := ⟨RX10, TX10, 8, rfl, by decide, iX10, k_at 337 (by decide +kernel) rfl⟩
theorem lf_X10_16 : k_LF RX10 16 9 1 := ⟨RX10, TX10, 8, rfl, by decide, iX10, k_at 338 (by decide +kernel) rfl⟩
theorem lf_X10_22 : k_LF RX10 22 9 2 := ⟨RX10, TX10, 8, rfl, by decide, iX10, k_at 339 (by decide +kernel) rfl⟩
theorem lf_X10_29 : k_LF RX10 29 9 3 := ⟨RX10, TX10, 8, rfl, by decide, iX10, k_at 340 (by decide +kernel) rfl⟩
theorem lf_X10_36 : k_LF RX10 36 9 4 := ⟨RX10, TX10, 8, rfl, by decide, iX10, k_at 341 (by decide +kernel) rfl⟩
theorem lf_X10_43 : k_LF RX10 43 9 5 := ⟨RX10, TX10, 8, rfl, by decide, iX10, k_at 342 (by decide +kernel) rfl⟩
theorem lf_X10_47 : k_LF RX10 47 9 6 := ⟨RX10, TX10, 8, rfl, by decide, iX10, k_at 343 (by decide +kernel) rfl⟩
theorem lf_X10_51 : k_LF RX10 51 9 7 := ⟨RX10, TX10, 8, rfl, by decide, iX10, k_at 344 (by decide +kernel) rfl⟩
theorem lp_X10_51 : k_LP RX10 51 9 7 .int := ⟨RX10, TX10, 8, tyX10, rfl, by decide, iX10, k_at 344 (by decide +kernel) rfl, tyX10_ok, nmX10, rfl, by decide +kernel⟩
theorem lc_X10_55 : Cond.constant RX10 55 (-1000000000) ∈ k_gw := k_at 373 (by decide +kernel) rfl
theorem lm_X10_56 : Cond.methodLink RX10 56 yX0_isKindAndNumber ∈ k_gw := k_at 366 (by decide +kernel) rfl
theorem lm_X10_62 : Cond.methodLink RX10 62 yX10_error ∈ k_gw := k_at 369 (by decide +kernel) rfl
theorem lf_X10_66 : k_LF RX10 66 8 0 := ⟨RX9, TX9, 12, rfl, by decide, iX9, k_at 205 (by decide +kernel) rfl⟩
theorem lf_X10_70 : k_LF RX10 70 0 5 := ⟨RX1, TX1, 6, rfl, by decide, iX1, k_at 123 (by decide +kernel) rfl⟩
theorem lm_X10_75 : Cond.methodLink RX10 75 yX1_join ∈ k_gw := k_at 374 (by decide +kernel) rfl
theorem lm_X10_78 : Cond.methodLink RX10 78 yX1_knows ∈ k_gw := k_at 390 (by decide +kernel) rfl
theorem lm_X10_81 : Cond.methodLink RX10 81 yX10_isWithin ∈ k_gw := k_at 394 (by decide +kernel) rfl
theorem lf_X10_85 : k_LF RX10 85 0 0 := ⟨RX1, TX1, 6, rfl, by decide, iX1, k_at 109 (by decide +kernel) rfl⟩
theorem lf_X10_88 : k_LF RX10 88 0 1 := ⟨RX1, TX1, 6, rfl, by decide, iX1, k_at 112 (by decide +kernel) rfl⟩
theorem lf_X10_91 : k_LF RX10 91 0 2 := ⟨RX1, TX1, 6, rfl, by decide, iX1, k_at 114 (by decide +kernel) rfl⟩
theorem lf_X10_94 : k_LF RX10 94 0 3 := ⟨RX1, TX1, 6, rfl, by decide, iX1, k_at 118 (by decide +kernel) rfl⟩
theorem lm_X10_97 : Cond.methodLink RX10 97 yX9_dayIn ∈ k_gw := k_at 397 (by decide +kernel) rfl
theorem lm_X10_100 : Cond.methodLink RX10 100 yX1_livesOf ∈ k_gw := k_at 401 (by decide +kernel) rfl
theorem lm_X10_104 : Cond.methodLink RX10 104 yX1_setKind ∈ k_gw := k_at 416 (by decide +kernel) rfl
theorem lm_X10_108 : Cond.methodLink RX10 108 yX0_isKind ∈ k_gw := k_at 421 (by decide +kernel) rfl
theorem lm_X10_111 : Cond.methodLink RX10 111 yX0_isUnder ∈ k_gw := k_at 424 (by decide +kernel) rfl
theorem lm_X10_115 : Cond.methodLink RX10 115 yX10_isDay ∈ k_gw := k_at 441 (by decide +kernel) rfl
theorem lm_X10_118 : Cond.methodLink RX10 118 yX1_timesOf ∈ k_gw := k_at 444 (by decide +kernel) rfl
theorem lm_X10_121 : Cond.methodLink RX10 121 yX1_setTimes ∈ k_gw := k_at 449 (by decide +kernel) rfl
theorem lm_X10_125 : Cond.methodLink RX10 125 yX9_priceOf ∈ k_gw := k_at 454 (by decide +kernel) rfl
theorem lm_X10_128 : Cond.methodLink RX10 128 yX1_areTwo ∈ k_gw := k_at 490 (by decide +kernel) rfl
theorem lm_X10_131 : Cond.methodLink RX10 131 yX9_saleCanBe ∈ k_gw := k_at 495 (by decide +kernel) rfl
theorem lm_X10_134 : Cond.methodLink RX10 134 yX9_makeSale ∈ k_gw := k_at 508 (by decide +kernel) rfl
theorem lm_X10_138 : Cond.methodLink RX10 138 yX9_weekCanBe ∈ k_gw := k_at 517 (by decide +kernel) rfl
theorem lf_X10_141 : k_LF RX10 141 8 1 := ⟨RX9, TX9, 12, rfl, by decide, iX9, k_at 208 (by decide +kernel) rfl⟩
theorem lf_X10_145 : k_LF RX10 145 1 3 := ⟨RX2, TX2, 4, rfl, by decide, iX2, k_at 156 (by decide +kernel) rfl⟩
theorem lm_X10_148 : Cond.methodLink RX10 148 yX2_join ∈ k_gw := k_at 525 (by decide +kernel) rfl
theorem lf_X10_150 : k_LF RX10 150 1 0 := ⟨RX2, TX2, 4, rfl, by decide, iX2, k_at 146 (by decide +kernel) rfl⟩
theorem lf_X10_153 : k_LF RX10 153 1 1 := ⟨RX2, TX2, 4, rfl, by decide, iX2, k_at 148 (by decide +kernel) rfl⟩
theorem lf_X10_156 : k_LF RX10 156 1 2 := ⟨RX2, TX2, 4, rfl, by decide, iX2, k_at 152 (by decide +kernel) rfl⟩
theorem lm_X10_159 : Cond.methodLink RX10 159 yX2_isKept ∈ k_gw := k_at 533 (by decide +kernel) rfl
theorem lf_X10_163 : k_LF RX10 163 8 4 := ⟨RX9, TX9, 12, rfl, by decide, iX9, k_at 212 (by decide +kernel) rfl⟩
theorem lf_X10_167 : k_LF RX10 167 3 1 := ⟨RX4, TX4, 2, rfl, by decide, iX4, k_at 186 (by decide +kernel) rfl⟩
theorem lm_X10_170 : Cond.methodLink RX10 170 yX4_add ∈ k_gw := k_at 546 (by decide +kernel) rfl
theorem lm_X10_174 : Cond.methodLink RX10 174 yX10_isUse ∈ k_gw := k_at 554 (by decide +kernel) rfl
theorem lm_X10_177 : Cond.methodLink RX10 177 yX3_faultOf ∈ k_gw := k_at 557 (by decide +kernel) rfl
theorem lp_X10_167 : k_LP RX10 167 3 1 .int := ⟨RX4, TX4, 2, tyX4, rfl, by decide, iX4, k_at 186 (by decide +kernel) rfl, tyX4_ok, nmX4, rfl, by decide +kernel⟩
theorem lm_X10_181 : Cond.methodLink RX10 181 yX9_textOf ∈ k_gw := k_at 606 (by decide +kernel) rfl
theorem lf_X10_185 : k_LF RX10 185 5 0 := ⟨RX6, TX6, 2, rfl, by decide, iX6, k_at 193 (by decide +kernel) rfl⟩
theorem lf_X10_190 : k_LF RX10 190 2 0 := ⟨RX3, TX3, 5, rfl, by decide, iX3, k_at 261 (by decide +kernel) rfl⟩
theorem lm_X10_191 : Cond.methodLink RX10 191 yX4_copyFrom ∈ k_gw := k_at 610 (by decide +kernel) rfl
theorem lm_X10_195 : Cond.methodLink RX10 195 yX6_isThere ∈ k_gw := k_at 615 (by decide +kernel) rfl
theorem lm_X10_199 : Cond.methodLink RX10 199 yX9_useGives ∈ k_gw := k_at 620 (by decide +kernel) rfl
theorem lf_X10_203 : k_LF RX10 203 8 6 := ⟨RX9, TX9, 12, rfl, by decide, iX9, k_at 216 (by decide +kernel) rfl⟩
theorem lm_X10_206 : Cond.methodLink RX10 206 yX9_letDayGo ∈ k_gw := k_at 625 (by decide +kernel) rfl
theorem lm_X10_210 : Cond.methodLink RX10 210 yX9_saleByDraws ∈ k_gw := k_at 653 (by decide +kernel) rfl
theorem lf_X10_213 : k_LF RX10 213 8 11 := ⟨RX9, TX9, 12, rfl, by decide, iX9, k_at 226 (by decide +kernel) rfl⟩
theorem lp_X10_213 : k_LP RX10 213 8 11 .int := ⟨RX9, TX9, 12, tyX9, rfl, by decide, iX9, k_at 226 (by decide +kernel) rfl, tyX9_ok, nmX9, rfl, by decide +kernel⟩
theorem lm_X10_216 : Cond.methodLink RX10 216 yX9_older ∈ k_gw := k_at 672 (by decide +kernel) rfl
theorem lm_X10_219 : Cond.methodLink RX10 219 yX9_poorer ∈ k_gw := k_at 673 (by decide +kernel) rfl
theorem lm_X10_222 : Cond.methodLink RX10 222 yX1_howManyUp ∈ k_gw := k_at 678 (by decide +kernel) rfl
theorem lm_X10_225 : Cond.methodLink RX10 225 yX1_upDays ∈ k_gw := k_at 687 (by decide +kernel) rfl
theorem lm_X10_228 : Cond.methodLink RX10 228 yX7_fewestKeepers ∈ k_gw := k_at 695 (by decide +kernel) rfl
theorem lm_X10_232 : Cond.methodLink RX10 232 yJ6_bitCount_0f7a4 ∈ k_gw := k_at 711 (by decide +kernel) rfl
theorem lm_X10_237 : Cond.methodLink RX10 237 yX7_howManyBought ∈ k_gw := k_at 716 (by decide +kernel) rfl
theorem lm_X10_241 : Cond.methodLink RX10 241 yX1_howManyDays ∈ k_gw := k_at 734 (by decide +kernel) rfl
theorem lm_X10_244 : Cond.methodLink RX10 244 yX7_takenByBailiffs ∈ k_gw := k_at 738 (by decide +kernel) rfl
theorem lm_X10_247 : Cond.methodLink RX10 247 yX7_pricesOf ∈ k_gw := k_at 754 (by decide +kernel) rfl
theorem lm_X10_250 : Cond.methodLink RX10 250 yX2_howManyUnkept ∈ k_gw := k_at 761 (by decide +kernel) rfl
theorem lm_X10_253 : Cond.methodLink RX10 253 yX7_harmsOf ∈ k_gw := k_at 766 (by decide +kernel) rfl
theorem lm_X10_256 : Cond.methodLink RX10 256 yX7_memberOf ∈ k_gw := k_at 770 (by decide +kernel) rfl
theorem lm_X10_259 : Cond.methodLink RX10 259 yX7_commonDivisor ∈ k_gw := k_at 777 (by decide +kernel) rfl
theorem lm_X10_262 : Cond.methodLink RX10 262 yX5_isSheet ∈ k_gw := k_at 784 (by decide +kernel) rfl
theorem lm_X10_265 : Cond.methodLink RX10 265 yX5_isMissing ∈ k_gw := k_at 787 (by decide +kernel) rfl
theorem lm_X10_268 : Cond.methodLink RX10 268 yX10_livesAsTold ∈ k_gw := k_at 791 (by decide +kernel) rfl
theorem lf_X10_271 : k_LF RX10 271 4 1 := ⟨RX5, TX5, 3, rfl, by decide, iX5, k_at 328 (by decide +kernel) rfl⟩
theorem lm_X10_274 : Cond.methodLink RX10 274 yX5_numberAt ∈ k_gw := k_at 795 (by decide +kernel) rfl
theorem lm_X10_277 : Cond.methodLink RX10 277 yX8_startAs ∈ k_gw := k_at 803 (by decide +kernel) rfl
theorem lm_X10_281 : Cond.methodLink RX10 281 yX8_own ∈ k_gw := k_at 807 (by decide +kernel) rfl
theorem lf_X10_284 : k_LF RX10 284 7 1 := ⟨RX8, TX8, 5, rfl, by decide, iX8, k_at 304 (by decide +kernel) rfl⟩
theorem lf_X10_288 : k_LF RX10 288 7 0 := ⟨RX8, TX8, 5, rfl, by decide, iX8, k_at 302 (by decide +kernel) rfl⟩
theorem lf_X10_291 : k_LF RX10 291 3 0 := ⟨RX4, TX4, 2, rfl, by decide, iX4, k_at 181 (by decide +kernel) rfl⟩
theorem lm_X10_294 : Cond.methodLink RX10 294 yX5_renew ∈ k_gw := k_at 843 (by decide +kernel) rfl
theorem lm_X10_297 : Cond.methodLink RX10 297 yX5_setNumber ∈ k_gw := k_at 851 (by decide +kernel) rfl
theorem lf_X10_300 : k_LF RX10 300 4 0 := ⟨RX5, TX5, 3, rfl, by decide, iX5, k_at 326 (by decide +kernel) rfl⟩
theorem lm_X10_303 : Cond.methodLink RX10 303 yX5_stand ∈ k_gw := k_at 859 (by decide +kernel) rfl
theorem lm_X10_306 : Cond.methodLink RX10 306 yX5_copyNumbers ∈ k_gw := k_at 863 (by decide +kernel) rfl
theorem lm_X10_310 : Cond.methodLink RX10 310 yJ9_min_7cf53 ∈ k_gw := k_at 872 (by decide +kernel) rfl
theorem lm_X10_315 : Cond.methodLink RX10 315 yX9_copyFrom ∈ k_gw := k_at 881 (by decide +kernel) rfl
theorem lf_X10_318 : k_LF RX10 318 8 5 := ⟨RX9, TX9, 12, rfl, by decide, iX9, k_at 214 (by decide +kernel) rfl⟩
theorem lf_X10_321 : k_LF RX10 321 8 7 := ⟨RX9, TX9, 12, rfl, by decide, iX9, k_at 218 (by decide +kernel) rfl⟩
theorem lf_X10_324 : k_LF RX10 324 8 8 := ⟨RX9, TX9, 12, rfl, by decide, iX9, k_at 220 (by decide +kernel) rfl⟩
theorem lf_X10_327 : k_LF RX10 327 8 9 := ⟨RX9, TX9, 12, rfl, by decide, iX9, k_at 222 (by decide +kernel) rfl⟩
theorem lf_X10_330 : k_LF RX10 330 8 10 := ⟨RX9, TX9, 12, rfl, by decide, iX9, k_at 224 (by decide +kernel) rfl⟩
theorem lf_X11_9 : k_LF RX11 9 10 0 := ⟨RX11, TX11, 24, rfl, by decide, iX11, k_at 922 (by decide +kernel) rfl⟩
theorem lf_X11_13 : k_LF RX11 13 10 1 := ⟨RX11, TX11, 24, rfl, by decide, iX11, k_at 923 (by decide +kernel) rfl⟩
theorem lf_X11_16 : k_LF RX11 16 10 2 := ⟨RX11, TX11, 24, rfl, by decide, iX11, k_at 924 (by decide +kernel) rfl⟩
theorem lf_X11_19 : k_LF RX11 19 10 4 := ⟨RX11, TX11, 24, rfl, by decide, iX11, k_at 926 (by decide +kernel) rfl⟩
theorem lf_X11_22 : k_LF RX11 22 10 5 := ⟨RX11, TX11, 24, rfl, by decide, iX11, k_at 927 (by decide +kernel) rfl⟩
theorem lf_X11_25 : k_LF RX11 25 10 6 := ⟨RX11, TX11, 24, rfl, by decide, iX11, k_at 928 (by decide +kernel) rfl⟩
theorem lf_X11_28 : k_LF RX11 28 10 7 := ⟨RX11, TX11, 24, rfl, by decide, iX11, k_at 929 (by decide +kernel) rfl⟩
theorem lf_X11_31 : k_LF RX11 31 10 8 := ⟨RX11, TX11, 24, rfl, by decide, iX11, k_at 930 (by decide +kernel) rfl⟩
theorem lf_X11_34 : k_LF RX11 34 10 9 := ⟨RX11, TX11, 24, rfl, by decide, iX11, k_at 931 (by decide +kernel) rfl⟩
theorem lf_X11_37 : k_LF RX11 37 10 10 := ⟨RX11, TX11, 24, rfl, by decide, iX11, k_at 932 (by decide +kernel) rfl⟩
theorem lf_X11_40 : k_LF RX11 40 10 11 := ⟨RX11, TX11, 24, rfl, by decide, iX11, k_at 933 (by decide +kernel) rfl⟩
theorem lf_X11_43 : k_LF RX11 43 10 17 := ⟨RX11, TX11, 24, rfl, by decide, iX11, k_at 939 (by decide +kernel) rfl⟩
theorem lf_X11_46 : k_LF RX11 46 10 18 := ⟨RX11, TX11, 24, rfl, by decide, iX11, k_at 940 (by decide +kernel) rfl⟩
theorem lf_X11_49 : k_LF RX11 49 10 21 := ⟨RX11, TX11, 24, rfl, by decide, iX11, k_at 943 (by decide +kernel) rfl⟩
theorem lc_X11_52 : Cond.constant RX11 52 (-1000000000) ∈ k_gw := k_at 1010 (by decide +kernel) rfl
theorem lm_X11_53 : Cond.methodLink RX11 53 yX11_in ∈ k_gw := k_at 1002 (by decide +kernel) rfl
theorem lm_X11_57 : Cond.methodLink RX11 57 yX11_isPerson ∈ k_gw := k_at 1020 (by decide +kernel) rfl
theorem lm_X11_61 : Cond.methodLink RX11 61 yX11_held ∈ k_gw := k_at 1079 (by decide +kernel) rfl
theorem lm_X11_65 : Cond.methodLink RX11 65 yX11_of ∈ k_gw := k_at 1024 (by decide +kernel) rfl
theorem lm_X11_69 : Cond.methodLink RX11 69 yX11_livesOf ∈ k_gw := k_at 1028 (by decide +kernel) rfl
theorem lm_X11_72 : Cond.methodLink RX11 72 yX11_isUp ∈ k_gw := k_at 1130 (by decide +kernel) rfl
theorem lm_X11_76 : Cond.methodLink RX11 76 yX11_said ∈ k_gw := k_at 1122 (by decide +kernel) rfl
theorem lm_X11_79 : Cond.methodLink RX11 79 yX11_isKept ∈ k_gw := k_at 1126 (by decide +kernel) rfl
theorem lm_X11_82 : Cond.methodLink RX11 82 yX11_isKm ∈ k_gw := k_at 999 (by decide +kernel) rfl
theorem lc_X11_85 : Cond.constant RX11 85 (-1000000001) ∈ k_gw := k_at 1005 (by decide +kernel) rfl
theorem lm_X11_86 : Cond.methodLink RX11 86 yX11_error ∈ k_gw := k_at 1006 (by decide +kernel) rfl
theorem lc_X11_90 : Cond.constant RX11 90 (-1000000004) ∈ k_gw := k_at 1011 (by decide +kernel) rfl
theorem lm_X11_91 : Cond.methodLink RX11 91 yX11_lay ∈ k_gw := k_at 1012 (by decide +kernel) rfl
theorem lm_X11_95 : Cond.methodLink RX11 95 yX11_becomes ∈ k_gw := k_at 1036 (by decide +kernel) rfl
theorem lc_X11_98 : Cond.constant RX11 98 (-1000000005) ∈ k_gw := k_at 1044 (by decide +kernel) rfl
theorem lm_X11_99 : Cond.methodLink RX11 99 yX11_isDay ∈ k_gw := k_at 1053 (by decide +kernel) rfl
theorem lm_X11_102 : Cond.methodLink RX11 102 yX11_gives ∈ k_gw := k_at 1068 (by decide +kernel) rfl
theorem lm_X11_106 : Cond.methodLink RX11 106 yX11_priceOf ∈ k_gw := k_at 1064 (by decide +kernel) rfl
theorem lm_X11_109 : Cond.methodLink RX11 109 yX11_areTwo ∈ k_gw := k_at 1086 (by decide +kernel) rfl
theorem lm_X11_112 : Cond.methodLink RX11 112 yX11_canSell ∈ k_gw := k_at 1090 (by decide +kernel) rfl
theorem lm_X11_115 : Cond.methodLink RX11 115 yX11_sells ∈ k_gw := k_at 1094 (by decide +kernel) rfl
theorem lc_X11_118 : Cond.constant RX11 118 (-1000000003) ∈ k_gw := k_at 1098 (by decide +kernel) rfl
theorem lm_X11_119 : Cond.methodLink RX11 119 yX11_thinks ∈ k_gw := k_at 1103 (by decide +kernel) rfl
theorem lm_X11_122 : Cond.methodLink RX11 122 yX11_putsBack ∈ k_gw := k_at 1110 (by decide +kernel) rfl
theorem lc_X11_125 : Cond.constantLong RX11 125 (lN 255) ∈ k_gw := k_at 1138 (by decide +kernel) rfl
theorem lf_X11_127 : k_LF RX11 127 10 13 := ⟨RX11, TX11, 24, rfl, by decide, iX11, k_at 935 (by decide +kernel) rfl⟩
theorem lf_X11_131 : k_LF RX11 131 10 12 := ⟨RX11, TX11, 24, rfl, by decide, iX11, k_at 934 (by decide +kernel) rfl⟩
theorem lp_X11_131 : k_LP RX11 131 10 12 .int := ⟨RX11, TX11, 24, tyX11, rfl, by decide, iX11, k_at 934 (by decide +kernel) rfl, tyX11_ok, nmX11, rfl, by decide +kernel⟩
theorem lf_X11_134 : k_LF RX11 134 10 16 := ⟨RX11, TX11, 24, rfl, by decide, iX11, k_at 938 (by decide +kernel) rfl⟩
theorem lm_X11_137 : Cond.methodLink RX11 137 yX11_look ∈ k_gw := k_at 1167 (by decide +kernel) rfl
theorem lp_X11_127 : k_LP RX11 127 10 13 .int := ⟨RX11, TX11, 24, tyX11, rfl, by decide, iX11, k_at 935 (by decide +kernel) rfl, tyX11_ok, nmX11, rfl, by decide +kernel⟩
theorem lf_X11_141 : k_LF RX11 141 10 15 := ⟨RX11, TX11, 24, rfl, by decide, iX11, k_at 937 (by decide +kernel) rfl⟩
theorem lp_X11_141 : k_LP RX11 141 10 15 .boolean := ⟨RX11, TX11, 24, tyX11, rfl, by decide, iX11, k_at 937 (by decide +kernel) rfl, tyX11_ok, nmX11, rfl, by decide +kernel⟩
theorem lm_X11_145 : Cond.methodLink RX11 145 yX11_step ∈ k_gw := k_at 1175 (by decide +kernel) rfl
theorem lf_X11_149 : k_LF RX11 149 10 14 := ⟨RX11, TX11, 24, rfl, by decide, iX11, k_at 936 (by decide +kernel) rfl⟩
theorem lp_X11_149 : k_LP RX11 149 10 14 .int := ⟨RX11, TX11, 24, tyX11, rfl, by decide, iX11, k_at 936 (by decide +kernel) rfl, tyX11_ok, nmX11, rfl, by decide +kernel⟩
theorem lm_X11_152 : Cond.methodLink RX11 152 yX11_one ∈ k_gw := k_at 1163 (by decide +kernel) rfl
theorem lm_X11_155 : Cond.methodLink RX11 155 yX11_any ∈ k_gw := k_at 1143 (by decide +kernel) rfl
theorem lm_X11_158 : Cond.methodLink RX11 158 yX11_nameOf ∈ k_gw := k_at 1171 (by decide +kernel) rfl
theorem lm_X11_161 : Cond.methodLink RX11 161 yX11_opens ∈ k_gw := k_at 1179 (by decide +kernel) rfl
theorem lm_X11_165 : Cond.methodLink RX11 165 yX11_number ∈ k_gw := k_at 1183 (by decide +kernel) rfl
theorem lm_X11_168 : Cond.methodLink RX11 168 yX11_times ∈ k_gw := k_at 1159 (by decide +kernel) rfl
theorem lm_X11_171 : Cond.methodLink RX11 171 yX11_sum ∈ k_gw := k_at 1155 (by decide +kernel) rfl
theorem lm_X11_174 : Cond.methodLink RX11 174 yX11_compares ∈ k_gw := k_at 1151 (by decide +kernel) rfl
theorem lm_X11_177 : Cond.methodLink RX11 177 yX11_all ∈ k_gw := k_at 1147 (by decide +kernel) rfl
theorem lp_X11_134 : k_LP RX11 134 10 16 .int := ⟨RX11, TX11, 24, tyX11, rfl, by decide, iX11, k_at 938 (by decide +kernel) rfl, tyX11_ok, nmX11, rfl, by decide +kernel⟩
theorem lm_X11_180 : Cond.methodLink RX11 180 yX11_twoOf ∈ k_gw := k_at 1076 (by decide +kernel) rfl
theorem lm_X11_183 : Cond.methodLink RX11 183 yX11_works ∈ k_gw := k_at 1072 (by decide +kernel) rfl
theorem lm_X11_186 : Cond.methodLink RX11 186 yX11_counts ∈ k_gw := k_at 1211 (by decide +kernel) rfl
theorem lm_X11_189 : Cond.methodLink RX11 189 yX11_manyUp ∈ k_gw := k_at 1203 (by decide +kernel) rfl
theorem lm_X11_192 : Cond.methodLink RX11 192 yX11_lives ∈ k_gw := k_at 1207 (by decide +kernel) rfl
theorem lm_X11_195 : Cond.methodLink RX11 195 yX11_goes ∈ k_gw := k_at 1199 (by decide +kernel) rfl
theorem lc_X11_198 : Cond.constant RX11 198 (nI 1103515245) ∈ k_gw := k_at 1227 (by decide +kernel) rfl
theorem lm_X11_199 : Cond.methodLink RX11 199 yX11_draw ∈ k_gw := k_at 1223 (by decide +kernel) rfl
theorem lm_X11_202 : Cond.methodLink RX11 202 yX11_drawn ∈ k_gw := k_at 1219 (by decide +kernel) rfl
theorem lm_X11_205 : Cond.methodLink RX11 205 yX11_copyAll ∈ k_gw := k_at 1107 (by decide +kernel) rfl
theorem lc_X11_209 : Cond.constant RX11 209 (-1000000002) ∈ k_gw := k_at 1244 (by decide +kernel) rfl
theorem lm_X11_210 : Cond.methodLink RX11 210 yX11_bits ∈ k_gw := k_at 1249 (by decide +kernel) rfl
theorem lm_X11_213 : Cond.methodLink RX11 213 yX11_doKeep ∈ k_gw := k_at 1252 (by decide +kernel) rfl
theorem lm_X11_216 : Cond.methodLink RX11 216 yX11_costing ∈ k_gw := k_at 1260 (by decide +kernel) rfl
theorem lm_X11_219 : Cond.methodLink RX11 219 yX11_notKept ∈ k_gw := k_at 1272 (by decide +kernel) rfl
theorem lf_X11_222 : k_LF RX11 222 10 19 := ⟨RX11, TX11, 24, rfl, by decide, iX11, k_at 941 (by decide +kernel) rfl⟩
theorem lf_X11_225 : k_LF RX11 225 10 20 := ⟨RX11, TX11, 24, rfl, by decide, iX11, k_at 942 (by decide +kernel) rfl⟩
theorem lp_X11_222 : k_LP RX11 222 10 19 .int := ⟨RX11, TX11, 24, tyX11, rfl, by decide, iX11, k_at 941 (by decide +kernel) rfl, tyX11_ok, nmX11, rfl, by decide +kernel⟩
theorem lp_X11_225 : k_LP RX11 225 10 20 .int := ⟨RX11, TX11, 24, tyX11, rfl, by decide, iX11, k_at 942 (by decide +kernel) rfl, tyX11_ok, nmX11, rfl, by decide +kernel⟩
theorem lm_X11_228 : Cond.methodLink RX11 228 yX11_takes ∈ k_gw := k_at 1268 (by decide +kernel) rfl
theorem lm_X11_232 : Cond.methodLink RX11 232 yX11_notThere ∈ k_gw := k_at 1284 (by decide +kernel) rfl
theorem lf_X11_235 : k_LF RX11 235 10 22 := ⟨RX11, TX11, 24, rfl, by decide, iX11, k_at 944 (by decide +kernel) rfl⟩
theorem lp_X11_235 : k_LP RX11 235 10 22 .int := ⟨RX11, TX11, 24, tyX11, rfl, by decide, iX11, k_at 944 (by decide +kernel) rfl, tyX11_ok, nmX11, rfl, by decide +kernel⟩
theorem lm_X11_238 : Cond.methodLink RX11 238 yX11_begins ∈ k_gw := k_at 1303 (by decide +kernel) rfl
theorem lm_X11_241 : Cond.methodLink RX11 241 yX11_plainYawns ∈ k_gw := k_at 1307 (by decide +kernel) rfl
theorem lm_X11_244 : Cond.methodLink RX11 244 yX11_studentYawns ∈ k_gw := k_at 1299 (by decide +kernel) rfl
theorem lm_X11_247 : Cond.methodLink RX11 247 yX11_yawns ∈ k_gw := k_at 1295 (by decide +kernel) rfl
theorem lm_X11_250 : Cond.methodLink RX11 250 yX11_plainTrades ∈ k_gw := k_at 1319 (by decide +kernel) rfl
theorem lm_X11_253 : Cond.methodLink RX11 253 yX11_widowTrades ∈ k_gw := k_at 1315 (by decide +kernel) rfl
theorem lm_X11_256 : Cond.methodLink RX11 256 yX11_trades ∈ k_gw := k_at 1311 (by decide +kernel) rfl
theorem lm_X11_259 : Cond.methodLink RX11 259 yX11_plainAges ∈ k_gw := k_at 1327 (by decide +kernel) rfl
theorem lf_X11_262 : k_LF RX11 262 10 23 := ⟨RX11, TX11, 24, rfl, by decide, iX11, k_at 945 (by decide +kernel) rfl⟩
theorem lp_X11_262 : k_LP RX11 262 10 23 .boolean := ⟨RX11, TX11, 24, tyX11, rfl, by decide, iX11, k_at 945 (by decide +kernel) rfl, tyX11_ok, nmX11, rfl, by decide +kernel⟩
theorem lm_X11_265 : Cond.methodLink RX11 265 yX11_plainParts ∈ k_gw := k_at 1335 (by decide +kernel) rfl
theorem lm_X11_268 : Cond.methodLink RX11 268 yX11_ages ∈ k_gw := k_at 1323 (by decide +kernel) rfl
theorem lm_X11_271 : Cond.methodLink RX11 271 yX11_parts ∈ k_gw := k_at 1331 (by decide +kernel) rfl
theorem lc_X11_274 : Cond.constant RX11 274 (-1000000006) ∈ k_gw := k_at 1339 (by decide +kernel) rfl
theorem lm_X11_275 : Cond.methodLink RX11 275 yX11_isSheet ∈ k_gw := k_at 1288 (by decide +kernel) rfl
theorem lm_X11_278 : Cond.methodLink RX11 278 yX11_notMoved ∈ k_gw := k_at 1356 (by decide +kernel) rfl
theorem lf_X11_282 : k_LF RX11 282 10 3 := ⟨RX11, TX11, 24, rfl, by decide, iX11, k_at 925 (by decide +kernel) rfl⟩
theorem lp_X11_282 : k_LP RX11 282 10 3 .int := ⟨RX11, TX11, 24, tyX11, rfl, by decide, iX11, k_at 925 (by decide +kernel) rfl, tyX11_ok, nmX11, rfl, by decide +kernel⟩
theorem lc_J6_265 : Cond.constant RJ6 265 (nI 1431655765) ∈ k_gw := k_at 703 (by decide +kernel) rfl
theorem lc_J6_266 : Cond.constant RJ6 266 (nI 858993459) ∈ k_gw := k_at 704 (by decide +kernel) rfl
theorem lc_J6_267 : Cond.constant RJ6 267 (nI 252645135) ∈ k_gw := k_at 705 (by decide +kernel) rfl
theorem mS_X0_isKind : k_mS mX0_isKind 1 := ⟨⟨k_at 423 (by decide +kernel) rfl, k_at 83 (by decide +kernel) rfl, by decide +kernel, by decide⟩, k_at 422 (by decide +kernel) rfl⟩
theorem mp_X0_isKind : plainName mX0_isKind.1.cls = true := by decide +kernel
theorem mS_X0_isKindAndNumber : k_mS mX0_isKindAndNumber 1 := ⟨⟨k_at 368 (by decide +kernel) rfl, k_at 83 (by decide +kernel) rfl, by decide +kernel, by decide⟩, k_at 367 (by decide +kernel) rfl⟩
theorem mp_X0_isKindAndNumber : plainName mX0_isKindAndNumber.1.cls = true := by decide +kernel
theorem mS_X0_above : k_mS mX0_above 1 := ⟨⟨k_at 429 (by decide +kernel) rfl, k_at 83 (by decide +kernel) rfl, by decide +kernel, by decide⟩, k_at 428 (by decide +kernel) rfl⟩
theorem mp_X0_above : plainName mX0_above.1.cls = true := by decide +kernel
theorem mS_X0_isUnder : k_mS mX0_isUnder 2 := ⟨⟨k_at 426 (by decide +kernel) rfl, k_at 83 (by decide +kernel) rfl, by decide +kernel, by decide⟩, k_at 425 (by decide +kernel) rfl⟩
theorem mp_X0_isUnder : plainName mX0_isUnder.1.cls = true := by decide +kernel
theorem mS_X0_speaker : k_mS mX0_speaker 2 := ⟨⟨k_at 817 (by decide +kernel) rfl, k_at 83 (by decide +kernel) rfl, by decide +kernel, by decide⟩, k_at 816 (by decide +kernel) rfl⟩
theorem mp_X0_speaker : plainName mX0_speaker.1.cls = true := by decide +kernel
theorem mS_X0_bodyOf : k_mS mX0_bodyOf 2 := ⟨⟨k_at 820 (by decide +kernel) rfl, k_at 83 (by decide +kernel) rfl, by decide +kernel, by decide⟩, k_at 819 (by decide +kernel) rfl⟩
theorem mp_X0_bodyOf : plainName mX0_bodyOf.1.cls = true := by decide +kernel
theorem mS_X0_lives : k_mS mX0_lives 4 := ⟨⟨k_at 411 (by decide +kernel) rfl, k_at 83 (by decide +kernel) rfl, by decide +kernel, by decide⟩, k_at 410 (by decide +kernel) rfl⟩
theorem mp_X0_lives : plainName mX0_lives.1.cls = true := by decide +kernel
theorem mV_X1_knows : k_mV mX1_knows 1 := ⟨⟨k_at 393 (by decide +kernel) rfl, k_at 74 (by decide +kernel) rfl, by decide +kernel, by decide⟩, k_at 391 (by decide +kernel) rfl, k_at 392 (by decide +kernel) rfl⟩
theorem mp_X1_knows : plainName mX1_knows.1.cls = true := by decide +kernel
theorem mV_X1_areTwo : k_mV mX1_areTwo 2 := ⟨⟨k_at 493 (by decide +kernel) rfl, k_at 74 (by decide +kernel) rfl, by decide +kernel, by decide⟩, k_at 491 (by decide +kernel) rfl, k_at 492 (by decide +kernel) rfl⟩
theorem mp_X1_areTwo : plainName mX1_areTwo.1.cls = true := by decide +kernel
theorem mV_X1_join : k_mV mX1_join 1 := ⟨⟨k_at 377 (by decide +kernel) rfl, k_at 74 (by decide +kernel) rfl, by decide +kernel, by decide⟩, k_at 375 (by decide +kernel) rfl, k_at 376 (by decide +kernel) rfl⟩
theorem mp_X1_join : plainName mX1_join.1.cls = true := by decide +kernel
theorem mV_X1_setKind : k_mV mX1_setKind 2 := ⟨⟨k_at 381 (by decide +kernel) rfl, k_at 74 (by decide +kernel) rfl, by decide +kernel, by decide⟩, k_at 379 (by decide +kernel) rfl, k_at 380 (by decide +kernel) rfl⟩
theorem mp_X1_setKind : plainName mX1_setKind.1.cls = true := by decide +kernel
theorem mV_X1_timesOf : k_mV mX1_timesOf 2 := ⟨⟨k_at 408 (by decide +kernel) rfl, k_at 74 (by decide +kernel) rfl, by decide +kernel, by decide⟩, k_at 406 (by decide +kernel) rfl, k_at 407 (by decide +kernel) rfl⟩
theorem mp_X1_timesOf : plainName mX1_timesOf.1.cls = true := by decide +kernel
theorem mV_X1_setTimes : k_mV mX1_setTimes 3 := ⟨⟨k_at 385 (by decide +kernel) rfl, k_at 74 (by decide +kernel) rfl, by decide +kernel, by decide⟩, k_at 383 (by decide +kernel) rfl, k_at 384 (by decide +kernel) rfl⟩
theorem mp_X1_setTimes : plainName mX1_setTimes.1.cls = true := by decide +kernel
theorem mV_X1_livesOf : k_mV mX1_livesOf 2 := ⟨⟨k_at 404 (by decide +kernel) rfl, k_at 74 (by decide +kernel) rfl, by decide +kernel, by decide⟩, k_at 402 (by decide +kernel) rfl, k_at 403 (by decide +kernel) rfl⟩
theorem mp_X1_livesOf : plainName mX1_livesOf.1.cls = true := by decide +kernel
theorem mV_X1_isUpIfHad : k_mV mX1_isUpIfHad 3 := ⟨⟨k_at 748 (by decide +kernel) rfl, k_at 74 (by decide +kernel) rfl, by decide +kernel, by decide⟩, k_at 746 (by decide +kernel) rfl, k_at 747 (by decide +kernel) rfl⟩
theorem mp_X1_isUpIfHad : plainName mX1_isUpIfHad.1.cls = true := by decide +kernel
theorem mV_X1_isUp : k_mV mX1_isUp 2 := ⟨⟨k_at 540 (by decide +kernel) rfl, k_at 74 (by decide +kernel) rfl, by decide +kernel, by decide⟩, k_at 538 (by decide +kernel) rfl, k_at 539 (by decide +kernel) rfl⟩
theorem mp_X1_isUp : plainName mX1_isUp.1.cls = true := by decide +kernel
theorem mV_X1_howManyUp : k_mV mX1_howManyUp 1 := ⟨⟨k_at 681 (by decide +kernel) rfl, k_at 74 (by decide +kernel) rfl, by decide +kernel, by decide⟩, k_at 679 (by decide +kernel) rfl, k_at 680 (by decide +kernel) rfl⟩
theorem mp_X1_howManyUp : plainName mX1_howManyUp.1.cls = true := by decide +kernel
theorem mV_X1_upDays : k_mV mX1_upDays 1 := ⟨⟨k_at 690 (by decide +kernel) rfl, k_at 74 (by decide +kernel) rfl, by decide +kernel, by decide⟩, k_at 688 (by decide +kernel) rfl, k_at 689 (by decide +kernel) rfl⟩
theorem mp_X1_upDays : plainName mX1_upDays.1.cls = true := by decide +kernel
theorem mV_X1_howManyDays : k_mV mX1_howManyDays 1 := ⟨⟨k_at 737 (by decide +kernel) rfl, k_at 74 (by decide +kernel) rfl, by decide +kernel, by decide⟩, k_at 735 (by decide +kernel) rfl, k_at 736 (by decide +kernel) rfl⟩
theorem mp_X1_howManyDays : plainName mX1_howManyDays.1.cls = true := by decide +kernel
theorem mV_X1_copyFrom : k_mV mX1_copyFrom 1 := ⟨⟨k_at 888 (by decide +kernel) rfl, k_at 74 (by decide +kernel) rfl, by decide +kernel, by decide⟩, k_at 886 (by decide +kernel) rfl, k_at 887 (by decide +kernel) rfl⟩
theorem mp_X1_copyFrom : plainName mX1_copyFrom.1.cls = true := by decide +kernel
theorem mV_X2_join : k_mV mX2_join 3 := ⟨⟨k_at 528 (by decide +kernel) rfl, k_at 75 (by decide +kernel) rfl, by decide +kernel, by decide⟩, k_at 526 (by decide +kernel) rfl, k_at 527 (by decide +kernel) rfl⟩
theorem mp_X2_join : plainName mX2_join.1.cls = true := by decide +kernel
theorem mV_X2_isOf : k_mV mX2_isOf 2 := ⟨⟨k_at 752 (by decide +kernel) rfl, k_at 75 (by decide +kernel) rfl, by decide +kernel, by decide⟩, k_at 750 (by decide +kernel) rfl, k_at 751 (by decide +kernel) rfl⟩
theorem mp_X2_isOf : plainName mX2_isOf.1.cls = true := by decide +kernel
theorem mV_X2_isKept : k_mV mX2_isKept 2 := ⟨⟨k_at 536 (by decide +kernel) rfl, k_at 75 (by decide +kernel) rfl, by decide +kernel, by decide⟩, k_at 534 (by decide +kernel) rfl, k_at 535 (by decide +kernel) rfl⟩
theorem mp_X2_isKept : plainName mX2_isKept.1.cls = true := by decide +kernel
theorem mV_X2_howManyUnkept : k_mV mX2_howManyUnkept 1 := ⟨⟨k_at 764 (by decide +kernel) rfl, k_at 75 (by decide +kernel) rfl, by decide +kernel, by decide⟩, k_at 762 (by decide +kernel) rfl, k_at 763 (by decide +kernel) rfl⟩
theorem mp_X2_howManyUnkept : plainName mX2_howManyUnkept.1.cls = true := by decide +kernel
theorem mV_X2_copyFrom : k_mV mX2_copyFrom 1 := ⟨⟨k_at 893 (by decide +kernel) rfl, k_at 75 (by decide +kernel) rfl, by decide +kernel, by decide⟩, k_at 891 (by decide +kernel) rfl, k_at 892 (by decide +kernel) rfl⟩
theorem mp_X2_copyFrom : plainName mX2_copyFrom.1.cls = true := by decide +kernel
theorem mV_X3_faultOf : k_mV mX3_faultOf 2 := ⟨⟨k_at 560 (by decide +kernel) rfl, k_at 78 (by decide +kernel) rfl, by decide +kernel, by decide⟩, k_at 558 (by decide +kernel) rfl, k_at 559 (by decide +kernel) rfl⟩
theorem mp_X3_faultOf : plainName mX3_faultOf.1.cls = true := by decide +kernel
theorem mV_X3_readLevel : k_mV mX3_readLevel 2 := ⟨⟨k_at 572 (by decide +kernel) rfl, k_at 78 (by decide +kernel) rfl, by decide +kernel, by decide⟩, k_at 571 (by decide +kernel) rfl, k_at 3 (by decide +kernel) rfl⟩
theorem mp_X3_readLevel : plainName mX3_readLevel.1.cls = true := by decide +kernel
theorem mV_X3_readQ : k_mV mX3_readQ 1 := ⟨⟨k_at 576 (by decide +kernel) rfl, k_at 78 (by decide +kernel) rfl, by decide +kernel, by decide⟩, k_at 575 (by decide +kernel) rfl, k_at 4 (by decide +kernel) rfl⟩
theorem mp_X3_readQ : plainName mX3_readQ.1.cls = true := by decide +kernel
theorem mV_X3_readNumber : k_mV mX3_readNumber 0 := ⟨⟨k_at 593 (by decide +kernel) rfl, k_at 78 (by decide +kernel) rfl, by decide +kernel, by decide⟩, k_at 592 (by decide +kernel) rfl, k_at 7 (by decide +kernel) rfl⟩
theorem mp_X3_readNumber : plainName mX3_readNumber.1.cls = true := by decide +kernel
theorem mV_X3_readClosing : k_mV mX3_readClosing 0 := ⟨⟨k_at 598 (by decide +kernel) rfl, k_at 78 (by decide +kernel) rfl, by decide +kernel, by decide⟩, k_at 597 (by decide +kernel) rfl, k_at 8 (by decide +kernel) rfl⟩
theorem mp_X3_readClosing : plainName mX3_readClosing.1.cls = true := by decide +kernel
theorem mV_X3_stopHere : k_mV mX3_stopHere 0 := ⟨⟨k_at 602 (by decide +kernel) rfl, k_at 78 (by decide +kernel) rfl, by decide +kernel, by decide⟩, k_at 601 (by decide +kernel) rfl, k_at 9 (by decide +kernel) rfl⟩
theorem mp_X3_stopHere : plainName mX3_stopHere.1.cls = true := by decide +kernel
theorem mV_X3_here : k_mV mX3_here 0 := ⟨⟨k_at 586 (by decide +kernel) rfl, k_at 78 (by decide +kernel) rfl, by decide +kernel, by decide⟩, k_at 585 (by decide +kernel) rfl, k_at 6 (by decide +kernel) rfl⟩
theorem mp_X3_here : plainName mX3_here.1.cls = true := by decide +kernel
theorem mV_X3_nameHere : k_mV mX3_nameHere 0 := ⟨⟨k_at 580 (by decide +kernel) rfl, k_at 78 (by decide +kernel) rfl, by decide +kernel, by decide⟩, k_at 579 (by decide +kernel) rfl, k_at 5 (by decide +kernel) rfl⟩
theorem mp_X3_nameHere : plainName mX3_nameHere.1.cls = true := by decide +kernel
theorem mS_X3_isDigit : k_mS mX3_isDigit 1 := ⟨⟨k_at 589 (by decide +kernel) rfl, k_at 78 (by decide +kernel) rfl, by decide +kernel, by decide⟩, k_at 588 (by decide +kernel) rfl⟩
theorem mp_X3_isDigit : plainName mX3_isDigit.1.cls = true := by decide +kernel
theorem mS_X3_isSignOf : k_mS mX3_isSignOf 2 := ⟨⟨k_at 605 (by decide +kernel) rfl, k_at 78 (by decide +kernel) rfl, by decide +kernel, by decide⟩, k_at 604 (by decide +kernel) rfl⟩
theorem mp_X3_isSignOf : plainName mX3_isSignOf.1.cls = true := by decide +kernel
theorem mV_X4_add : k_mV mX4_add 1 := ⟨⟨k_at 549 (by decide +kernel) rfl, k_at 77 (by decide +kernel) rfl, by decide +kernel, by decide⟩, k_at 547 (by decide +kernel) rfl, k_at 548 (by decide +kernel) rfl⟩
theorem mp_X4_add : plainName mX4_add.1.cls = true := by decide +kernel
theorem mV_X4_copyFrom : k_mV mX4_copyFrom 1 := ⟨⟨k_at 564 (by decide +kernel) rfl, k_at 77 (by decide +kernel) rfl, by decide +kernel, by decide⟩, k_at 562 (by decide +kernel) rfl, k_at 563 (by decide +kernel) rfl⟩
theorem mp_X4_copyFrom : plainName mX4_copyFrom.1.cls = true := by decide +kernel
theorem mS_X5_isSheet : k_mS mX5_isSheet 1 := ⟨⟨k_at 786 (by decide +kernel) rfl, k_at 81 (by decide +kernel) rfl, by decide +kernel, by decide⟩, k_at 785 (by decide +kernel) rfl⟩
theorem mp_X5_isSheet : plainName mX5_isSheet.1.cls = true := by decide +kernel
theorem mV_X5_isMissing : k_mV mX5_isMissing 1 := ⟨⟨k_at 790 (by decide +kernel) rfl, k_at 81 (by decide +kernel) rfl, by decide +kernel, by decide⟩, k_at 788 (by decide +kernel) rfl, k_at 789 (by decide +kernel) rfl⟩
theorem mp_X5_isMissing : plainName mX5_isMissing.1.cls = true := by decide +kernel
theorem mV_X5_renew : k_mV mX5_renew 3 := ⟨⟨k_at 846 (by decide +kernel) rfl, k_at 81 (by decide +kernel) rfl, by decide +kernel, by decide⟩, k_at 844 (by decide +kernel) rfl, k_at 845 (by decide +kernel) rfl⟩
theorem mp_X5_renew : plainName mX5_renew.1.cls = true := by decide +kernel
theorem mV_X5_numberAt : k_mV mX5_numberAt 2 := ⟨⟨k_at 798 (by decide +kernel) rfl, k_at 81 (by decide +kernel) rfl, by decide +kernel, by decide⟩, k_at 796 (by decide +kernel) rfl, k_at 797 (by decide +kernel) rfl⟩
theorem mp_X5_numberAt : plainName mX5_numberAt.1.cls = true := by decide +kernel
theorem mV_X5_setNumber : k_mV mX5_setNumber 3 := ⟨⟨k_at 854 (by decide +kernel) rfl, k_at 81 (by decide +kernel) rfl, by decide +kernel, by decide⟩, k_at 852 (by decide +kernel) rfl, k_at 853 (by decide +kernel) rfl⟩
theorem mp_X5_setNumber : plainName mX5_setNumber.1.cls = true := by decide +kernel
theorem mV_X5_stand : k_mV mX5_stand 3 := ⟨⟨k_at 862 (by decide +kernel) rfl, k_at 81 (by decide +kernel) rfl, by decide +kernel, by decide⟩, k_at 860 (by decide +kernel) rfl, k_at 861 (by decide +kernel) rfl⟩
theorem mp_X5_stand : plainName mX5_stand.1.cls = true := by decide +kernel
theorem mV_X5_copyNumbers : k_mV mX5_copyNumbers 5 := ⟨⟨k_at 866 (by decide +kernel) rfl, k_at 81 (by decide +kernel) rfl, by decide +kernel, by decide⟩, k_at 864 (by decide +kernel) rfl, k_at 865 (by decide +kernel) rfl⟩
theorem mp_X5_copyNumbers : plainName mX5_copyNumbers.1.cls = true := by decide +kernel
theorem mV_X6_isThere : k_mV mX6_isThere 0 := ⟨⟨k_at 466 (by decide +kernel) rfl, k_at 76 (by decide +kernel) rfl, by decide +kernel, by decide⟩, k_at 464 (by decide +kernel) rfl, k_at 465 (by decide +kernel) rfl⟩
theorem mp_X6_isThere : plainName mX6_isThere.1.cls = true := by decide +kernel
theorem mV_X6_gives : k_mV mX6_gives 3 := ⟨⟨k_at 470 (by decide +kernel) rfl, k_at 76 (by decide +kernel) rfl, by decide +kernel, by decide⟩, k_at 468 (by decide +kernel) rfl, k_at 469 (by decide +kernel) rfl⟩
theorem mp_X6_gives : plainName mX6_gives.1.cls = true := by decide +kernel
theorem mS_X6_operand : k_mS mX6_operand 4 := ⟨⟨k_at 473 (by decide +kernel) rfl, k_at 76 (by decide +kernel) rfl, by decide +kernel, by decide⟩, k_at 472 (by decide +kernel) rfl⟩
theorem mp_X6_operand : plainName mX6_operand.1.cls = true := by decide +kernel
theorem mS_X6_joined : k_mS mX6_joined 3 := ⟨⟨k_at 476 (by decide +kernel) rfl, k_at 76 (by decide +kernel) rfl, by decide +kernel, by decide⟩, k_at 475 (by decide +kernel) rfl⟩
theorem mp_X6_joined : plainName mX6_joined.1.cls = true := by decide +kernel
theorem mV_X7_fewestKeepers : k_mV mX7_fewestKeepers 1 := ⟨⟨k_at 698 (by decide +kernel) rfl, k_at 79 (by decide +kernel) rfl, by decide +kernel, by decide⟩, k_at 696 (by decide +kernel) rfl, k_at 697 (by decide +kernel) rfl⟩
theorem mp_X7_fewestKeepers : plainName mX7_fewestKeepers.1.cls = true := by decide +kernel
theorem mV_X7_daysKeptBy : k_mV mX7_daysKeptBy 1 := ⟨⟨k_at 709 (by decide +kernel) rfl, k_at 79 (by decide +kernel) rfl, by decide +kernel, by decide⟩, k_at 708 (by decide +kernel) rfl, k_at 13 (by decide +kernel) rfl⟩
theorem mp_X7_daysKeptBy : plainName mX7_daysKeptBy.1.cls = true := by decide +kernel
theorem mV_X7_howManyBought : k_mV mX7_howManyBought 3 := ⟨⟨k_at 719 (by decide +kernel) rfl, k_at 79 (by decide +kernel) rfl, by decide +kernel, by decide⟩, k_at 717 (by decide +kernel) rfl, k_at 718 (by decide +kernel) rfl⟩
theorem mp_X7_howManyBought : plainName mX7_howManyBought.1.cls = true := by decide +kernel
theorem mV_X7_takenByBailiffs : k_mV mX7_takenByBailiffs 3 := ⟨⟨k_at 741 (by decide +kernel) rfl, k_at 79 (by decide +kernel) rfl, by decide +kernel, by decide⟩, k_at 739 (by decide +kernel) rfl, k_at 740 (by decide +kernel) rfl⟩
theorem mp_X7_takenByBailiffs : plainName mX7_takenByBailiffs.1.cls = true := by decide +kernel
theorem mS_X7_harmOf : k_mS mX7_harmOf 3 := ⟨⟨k_at 744 (by decide +kernel) rfl, k_at 79 (by decide +kernel) rfl, by decide +kernel, by decide⟩, k_at 743 (by decide +kernel) rfl⟩
theorem mp_X7_harmOf : plainName mX7_harmOf.1.cls = true := by decide +kernel
theorem mV_X7_leastOf : k_mV mX7_leastOf 1 := ⟨⟨k_at 725 (by decide +kernel) rfl, k_at 79 (by decide +kernel) rfl, by decide +kernel, by decide⟩, k_at 724 (by decide +kernel) rfl, k_at 14 (by decide +kernel) rfl⟩
theorem mp_X7_leastOf : plainName mX7_leastOf.1.cls = true := by decide +kernel
theorem mV_X7_isLess : k_mV mX7_isLess 2 := ⟨⟨k_at 729 (by decide +kernel) rfl, k_at 79 (by decide +kernel) rfl, by decide +kernel, by decide⟩, k_at 728 (by decide +kernel) rfl, k_at 15 (by decide +kernel) rfl⟩
theorem mp_X7_isLess : plainName mX7_isLess.1.cls = true := by decide +kernel
theorem mV_X7_pricesOf : k_mV mX7_pricesOf 1 := ⟨⟨k_at 757 (by decide +kernel) rfl, k_at 79 (by decide +kernel) rfl, by decide +kernel, by decide⟩, k_at 755 (by decide +kernel) rfl, k_at 756 (by decide +kernel) rfl⟩
theorem mp_X7_pricesOf : plainName mX7_pricesOf.1.cls = true := by decide +kernel
theorem mV_X7_harmsOf : k_mV mX7_harmsOf 1 := ⟨⟨k_at 769 (by decide +kernel) rfl, k_at 79 (by decide +kernel) rfl, by decide +kernel, by decide⟩, k_at 767 (by decide +kernel) rfl, k_at 768 (by decide +kernel) rfl⟩
theorem mp_X7_harmsOf : plainName mX7_harmsOf.1.cls = true := by decide +kernel
theorem mS_X7_sumOver : k_mS mX7_sumOver 2 := ⟨⟨k_at 760 (by decide +kernel) rfl, k_at 79 (by decide +kernel) rfl, by decide +kernel, by decide⟩, k_at 759 (by decide +kernel) rfl⟩
theorem mp_X7_sumOver : plainName mX7_sumOver.1.cls = true := by decide +kernel
theorem mS_X7_memberOf : k_mS mX7_memberOf 2 := ⟨⟨k_at 772 (by decide +kernel) rfl, k_at 79 (by decide +kernel) rfl, by decide +kernel, by decide⟩, k_at 771 (by decide +kernel) rfl⟩
theorem mp_X7_memberOf : plainName mX7_memberOf.1.cls = true := by decide +kernel
theorem mS_X7_commonDivisor : k_mS mX7_commonDivisor 1 := ⟨⟨k_at 779 (by decide +kernel) rfl, k_at 79 (by decide +kernel) rfl, by decide +kernel, by decide⟩, k_at 778 (by decide +kernel) rfl⟩
theorem mp_X7_commonDivisor : plainName mX7_commonDivisor.1.cls = true := by decide +kernel
theorem mV_X8_startAs : k_mV mX8_startAs 2 := ⟨⟨k_at 806 (by decide +kernel) rfl, k_at 80 (by decide +kernel) rfl, by decide +kernel, by decide⟩, k_at 804 (by decide +kernel) rfl, k_at 805 (by decide +kernel) rfl⟩
theorem mp_X8_startAs : plainName mX8_startAs.1.cls = true := by decide +kernel
theorem mV_X8_own : k_mV mX8_own 3 := ⟨⟨k_at 810 (by decide +kernel) rfl, k_at 80 (by decide +kernel) rfl, by decide +kernel, by decide⟩, k_at 808 (by decide +kernel) rfl, k_at 809 (by decide +kernel) rfl⟩
theorem mp_X8_own : plainName mX8_own.1.cls = true := by decide +kernel
theorem mV_X8_sound : k_mV mX8_sound 4 := ⟨⟨k_at 814 (by decide +kernel) rfl, k_at 80 (by decide +kernel) rfl, by decide +kernel, by decide⟩, k_at 813 (by decide +kernel) rfl, k_at 17 (by decide +kernel) rfl⟩
theorem mp_X8_sound : plainName mX8_sound.1.cls = true := by decide +kernel
theorem mV_X8_partAndTrade : k_mV mX8_partAndTrade 3 := ⟨⟨k_at 834 (by decide +kernel) rfl, k_at 80 (by decide +kernel) rfl, by decide +kernel, by decide⟩, k_at 833 (by decide +kernel) rfl, k_at 19 (by decide +kernel) rfl⟩
theorem mp_X8_partAndTrade : plainName mX8_partAndTrade.1.cls = true := by decide +kernel
theorem mV_X8_part : k_mV mX8_part 2 := ⟨⟨k_at 830 (by decide +kernel) rfl, k_at 80 (by decide +kernel) rfl, by decide +kernel, by decide⟩, k_at 829 (by decide +kernel) rfl, k_at 18 (by decide +kernel) rfl⟩
theorem mp_X8_part : plainName mX8_part.1.cls = true := by decide +kernel
theorem mV_X9_dayIn : k_mV mX9_dayIn 1 := ⟨⟨k_at 400 (by decide +kernel) rfl, k_at 73 (by decide +kernel) rfl, by decide +kernel, by decide⟩, k_at 398 (by decide +kernel) rfl, k_at 399 (by decide +kernel) rfl⟩
theorem mp_X9_dayIn : plainName mX9_dayIn.1.cls = true := by decide +kernel
theorem mV_X9_textOf : k_mV mX9_textOf 1 := ⟨⟨k_at 609 (by decide +kernel) rfl, k_at 73 (by decide +kernel) rfl, by decide +kernel, by decide⟩, k_at 607 (by decide +kernel) rfl, k_at 608 (by decide +kernel) rfl⟩
theorem mp_X9_textOf : plainName mX9_textOf.1.cls = true := by decide +kernel
theorem mV_X9_useGives : k_mV mX9_useGives 4 := ⟨⟨k_at 462 (by decide +kernel) rfl, k_at 73 (by decide +kernel) rfl, by decide +kernel, by decide⟩, k_at 460 (by decide +kernel) rfl, k_at 461 (by decide +kernel) rfl⟩
theorem mp_X9_useGives : plainName mX9_useGives.1.cls = true := by decide +kernel
theorem mS_X9_held : k_mS mX9_held 2 := ⟨⟨k_at 479 (by decide +kernel) rfl, k_at 73 (by decide +kernel) rfl, by decide +kernel, by decide⟩, k_at 478 (by decide +kernel) rfl⟩
theorem mp_X9_held : plainName mX9_held.1.cls = true := by decide +kernel
theorem mV_X9_priceOf : k_mV mX9_priceOf 2 := ⟨⟨k_at 457 (by decide +kernel) rfl, k_at 73 (by decide +kernel) rfl, by decide +kernel, by decide⟩, k_at 455 (by decide +kernel) rfl, k_at 456 (by decide +kernel) rfl⟩
theorem mp_X9_priceOf : plainName mX9_priceOf.1.cls = true := by decide +kernel
theorem mV_X9_saleCanBe : k_mV mX9_saleCanBe 3 := ⟨⟨k_at 498 (by decide +kernel) rfl, k_at 73 (by decide +kernel) rfl, by decide +kernel, by decide⟩, k_at 496 (by decide +kernel) rfl, k_at 497 (by decide +kernel) rfl⟩
theorem mp_X9_saleCanBe : plainName mX9_saleCanBe.1.cls = true := by decide +kernel
theorem mV_X9_dayCanPass : k_mV mX9_dayCanPass 3 := ⟨⟨k_at 502 (by decide +kernel) rfl, k_at 73 (by decide +kernel) rfl, by decide +kernel, by decide⟩, k_at 501 (by decide +kernel) rfl, k_at 1 (by decide +kernel) rfl⟩
theorem mp_X9_dayCanPass : plainName mX9_dayCanPass.1.cls = true := by decide +kernel
theorem mV_X9_canPay : k_mV mX9_canPay 3 := ⟨⟨k_at 507 (by decide +kernel) rfl, k_at 73 (by decide +kernel) rfl, by decide +kernel, by decide⟩, k_at 506 (by decide +kernel) rfl, k_at 2 (by decide +kernel) rfl⟩
theorem mp_X9_canPay : plainName mX9_canPay.1.cls = true := by decide +kernel
theorem mV_X9_weekCanBe : k_mV mX9_weekCanBe 3 := ⟨⟨k_at 520 (by decide +kernel) rfl, k_at 73 (by decide +kernel) rfl, by decide +kernel, by decide⟩, k_at 518 (by decide +kernel) rfl, k_at 519 (by decide +kernel) rfl⟩
theorem mp_X9_weekCanBe : plainName mX9_weekCanBe.1.cls = true := by decide +kernel
theorem mV_X9_makeSale : k_mV mX9_makeSale 3 := ⟨⟨k_at 511 (by decide +kernel) rfl, k_at 73 (by decide +kernel) rfl, by decide +kernel, by decide⟩, k_at 509 (by decide +kernel) rfl, k_at 510 (by decide +kernel) rfl⟩
theorem mp_X9_makeSale : plainName mX9_makeSale.1.cls = true := by decide +kernel
theorem mV_X9_saleByDraws : k_mV mX9_saleByDraws 0 := ⟨⟨k_at 656 (by decide +kernel) rfl, k_at 73 (by decide +kernel) rfl, by decide +kernel, by decide⟩, k_at 654 (by decide +kernel) rfl, k_at 655 (by decide +kernel) rfl⟩
theorem mp_X9_saleByDraws : plainName mX9_saleByDraws.1.cls = true := by decide +kernel
theorem mV_X9_draw : k_mV mX9_draw 0 := ⟨⟨k_at 660 (by decide +kernel) rfl, k_at 73 (by decide +kernel) rfl, by decide +kernel, by decide⟩, k_at 659 (by decide +kernel) rfl, k_at 12 (by decide +kernel) rfl⟩
theorem mp_X9_draw : plainName mX9_draw.1.cls = true := by decide +kernel
theorem mV_X9_letDayGo : k_mV mX9_letDayGo 0 := ⟨⟨k_at 628 (by decide +kernel) rfl, k_at 73 (by decide +kernel) rfl, by decide +kernel, by decide⟩, k_at 626 (by decide +kernel) rfl, k_at 627 (by decide +kernel) rfl⟩
theorem mp_X9_letDayGo : plainName mX9_letDayGo.1.cls = true := by decide +kernel
theorem mV_X9_letOneLive : k_mV mX9_letOneLive 3 := ⟨⟨k_at 634 (by decide +kernel) rfl, k_at 73 (by decide +kernel) rfl, by decide +kernel, by decide⟩, k_at 633 (by decide +kernel) rfl, k_at 10 (by decide +kernel) rfl⟩
theorem mp_X9_letOneLive : plainName mX9_letOneLive.1.cls = true := by decide +kernel
theorem mV_X9_settlePromises : k_mV mX9_settlePromises 1 := ⟨⟨k_at 647 (by decide +kernel) rfl, k_at 73 (by decide +kernel) rfl, by decide +kernel, by decide⟩, k_at 646 (by decide +kernel) rfl, k_at 11 (by decide +kernel) rfl⟩
theorem mp_X9_settlePromises : plainName mX9_settlePromises.1.cls = true := by decide +kernel
theorem mS_X9_older : k_mS mX9_older 2 := ⟨⟨k_at 637 (by decide +kernel) rfl, k_at 73 (by decide +kernel) rfl, by decide +kernel, by decide⟩, k_at 636 (by decide +kernel) rfl⟩
theorem mp_X9_older : plainName mX9_older.1.cls = true := by decide +kernel
theorem mS_X9_poorer : k_mS mX9_poorer 2 := ⟨⟨k_at 640 (by decide +kernel) rfl, k_at 73 (by decide +kernel) rfl, by decide +kernel, by decide⟩, k_at 639 (by decide +kernel) rfl⟩
theorem mp_X9_poorer : plainName mX9_poorer.1.cls = true := by decide +kernel
theorem mS_X9_oneMore : k_mS mX9_oneMore 1 := ⟨⟨k_at 643 (by decide +kernel) rfl, k_at 73 (by decide +kernel) rfl, by decide +kernel, by decide⟩, k_at 642 (by decide +kernel) rfl⟩
theorem mp_X9_oneMore : plainName mX9_oneMore.1.cls = true := by decide +kernel
theorem mV_X9_copyFrom : k_mV mX9_copyFrom 1 := ⟨⟨k_at 884 (by decide +kernel) rfl, k_at 73 (by decide +kernel) rfl, by decide +kernel, by decide⟩, k_at 882 (by decide +kernel) rfl, k_at 883 (by decide +kernel) rfl⟩
theorem mp_X9_copyFrom : plainName mX9_copyFrom.1.cls = true := by decide +kernel
theorem mV_X10_error : k_mV mX10_error 1 := ⟨⟨k_at 372 (by decide +kernel) rfl, k_at 72 (by decide +kernel) rfl, by decide +kernel, by decide⟩, k_at 371 (by decide +kernel) rfl, k_at 0 (by decide +kernel) rfl⟩
theorem mp_X10_error : plainName mX10_error.1.cls = true := by decide +kernel
theorem mS_X10_isDay : k_mS mX10_isDay 1 := ⟨⟨k_at 443 (by decide +kernel) rfl, k_at 72 (by decide +kernel) rfl, by decide +kernel, by decide⟩, k_at 442 (by decide +kernel) rfl⟩
theorem mp_X10_isDay : plainName mX10_isDay.1.cls = true := by decide +kernel
theorem mS_X10_isUse : k_mS mX10_isUse 1 := ⟨⟨k_at 556 (by decide +kernel) rfl, k_at 72 (by decide +kernel) rfl, by decide +kernel, by decide⟩, k_at 555 (by decide +kernel) rfl⟩
theorem mp_X10_isUse : plainName mX10_isUse.1.cls = true := by decide +kernel
theorem mS_X10_isWithin : k_mS mX10_isWithin 3 := ⟨⟨k_at 396 (by decide +kernel) rfl, k_at 72 (by decide +kernel) rfl, by decide +kernel, by decide⟩, k_at 395 (by decide +kernel) rfl⟩
theorem mp_X10_isWithin : plainName mX10_isWithin.1.cls = true := by decide +kernel
theorem mV_X10_person : k_mV mX10_person 1 := ⟨⟨k_at 365 (by decide +kernel) rfl, k_at 72 (by decide +kernel) rfl, by decide +kernel, by decide⟩, k_at 363 (by decide +kernel) rfl, k_at 364 (by decide +kernel) rfl⟩
theorem mp_X10_person : plainName mX10_person.1.cls = true := by decide +kernel
theorem mV_X10_personIs : k_mV mX10_personIs 2 := ⟨⟨k_at 389 (by decide +kernel) rfl, k_at 72 (by decide +kernel) rfl, by decide +kernel, by decide⟩, k_at 387 (by decide +kernel) rfl, k_at 388 (by decide +kernel) rfl⟩
theorem mp_X10_personIs : plainName mX10_personIs.1.cls = true := by decide +kernel
theorem mV_X10_become : k_mV mX10_become 2 := ⟨⟨k_at 415 (by decide +kernel) rfl, k_at 72 (by decide +kernel) rfl, by decide +kernel, by decide⟩, k_at 413 (by decide +kernel) rfl, k_at 414 (by decide +kernel) rfl⟩
theorem mp_X10_become : plainName mX10_become.1.cls = true := by decide +kernel
theorem mV_X10_as : k_mV mX10_as 2 := ⟨⟨k_at 420 (by decide +kernel) rfl, k_at 72 (by decide +kernel) rfl, by decide +kernel, by decide⟩, k_at 418 (by decide +kernel) rfl, k_at 419 (by decide +kernel) rfl⟩
theorem mp_X10_as : plainName mX10_as.1.cls = true := by decide +kernel
theorem mV_X10_change : k_mV mX10_change 3 := ⟨⟨k_at 436 (by decide +kernel) rfl, k_at 72 (by decide +kernel) rfl, by decide +kernel, by decide⟩, k_at 434 (by decide +kernel) rfl, k_at 435 (by decide +kernel) rfl⟩
theorem mp_X10_change : plainName mX10_change.1.cls = true := by decide +kernel
theorem mV_X10_has : k_mV mX10_has 2 := ⟨⟨k_at 440 (by decide +kernel) rfl, k_at 72 (by decide +kernel) rfl, by decide +kernel, by decide⟩, k_at 438 (by decide +kernel) rfl, k_at 439 (by decide +kernel) rfl⟩
theorem mp_X10_has : plainName mX10_has.1.cls = true := by decide +kernel
theorem mV_X10_give : k_mV mX10_give 3 := ⟨⟨k_at 448 (by decide +kernel) rfl, k_at 72 (by decide +kernel) rfl, by decide +kernel, by decide⟩, k_at 446 (by decide +kernel) rfl, k_at 447 (by decide +kernel) rfl⟩
theorem mp_X10_give : plainName mX10_give.1.cls = true := by decide +kernel
theorem mV_X10_price : k_mV mX10_price 2 := ⟨⟨k_at 453 (by decide +kernel) rfl, k_at 72 (by decide +kernel) rfl, by decide +kernel, by decide⟩, k_at 451 (by decide +kernel) rfl, k_at 452 (by decide +kernel) rfl⟩
theorem mp_X10_price : plainName mX10_price.1.cls = true := by decide +kernel
theorem mV_X10_sell : k_mV mX10_sell 3 := ⟨⟨k_at 489 (by decide +kernel) rfl, k_at 72 (by decide +kernel) rfl, by decide +kernel, by decide⟩, k_at 487 (by decide +kernel) rfl, k_at 488 (by decide +kernel) rfl⟩
theorem mp_X10_sell : plainName mX10_sell.1.cls = true := by decide +kernel
theorem mV_X10_sellWeek : k_mV mX10_sellWeek 3 := ⟨⟨k_at 516 (by decide +kernel) rfl, k_at 72 (by decide +kernel) rfl, by decide +kernel, by decide⟩, k_at 514 (by decide +kernel) rfl, k_at 515 (by decide +kernel) rfl⟩
theorem mp_X10_sellWeek : plainName mX10_sellWeek.1.cls = true := by decide +kernel
theorem mV_X10_promise : k_mV mX10_promise 3 := ⟨⟨k_at 524 (by decide +kernel) rfl, k_at 72 (by decide +kernel) rfl, by decide +kernel, by decide⟩, k_at 522 (by decide +kernel) rfl, k_at 523 (by decide +kernel) rfl⟩
theorem mp_X10_promise : plainName mX10_promise.1.cls = true := by decide +kernel
theorem mV_X10_promiseIs : k_mV mX10_promiseIs 2 := ⟨⟨k_at 532 (by decide +kernel) rfl, k_at 72 (by decide +kernel) rfl, by decide +kernel, by decide⟩, k_at 530 (by decide +kernel) rfl, k_at 531 (by decide +kernel) rfl⟩
theorem mp_X10_promiseIs : plainName mX10_promiseIs.1.cls = true := by decide +kernel
theorem mV_X10_feed : k_mV mX10_feed 2 := ⟨⟨k_at 545 (by decide +kernel) rfl, k_at 72 (by decide +kernel) rfl, by decide +kernel, by decide⟩, k_at 543 (by decide +kernel) rfl, k_at 544 (by decide +kernel) rfl⟩
theorem mp_X10_feed : plainName mX10_feed.1.cls = true := by decide +kernel
theorem mV_X10_text : k_mV mX10_text 1 := ⟨⟨k_at 553 (by decide +kernel) rfl, k_at 72 (by decide +kernel) rfl, by decide +kernel, by decide⟩, k_at 551 (by decide +kernel) rfl, k_at 552 (by decide +kernel) rfl⟩
theorem mp_X10_text : plainName mX10_text.1.cls = true := by decide +kernel
theorem mV_X10_untell : k_mV mX10_untell 1 := ⟨⟨k_at 614 (by decide +kernel) rfl, k_at 72 (by decide +kernel) rfl, by decide +kernel, by decide⟩, k_at 612 (by decide +kernel) rfl, k_at 613 (by decide +kernel) rfl⟩
theorem mp_X10_untell : plainName mX10_untell.1.cls = true := by decide +kernel
theorem mV_X10_law : k_mV mX10_law 4 := ⟨⟨k_at 619 (by decide +kernel) rfl, k_at 72 (by decide +kernel) rfl, by decide +kernel, by decide⟩, k_at 617 (by decide +kernel) rfl, k_at 618 (by decide +kernel) rfl⟩
theorem mp_X10_law : plainName mX10_law.1.cls = true := by decide +kernel
theorem mV_X10_days : k_mV mX10_days 1 := ⟨⟨k_at 624 (by decide +kernel) rfl, k_at 72 (by decide +kernel) rfl, by decide +kernel, by decide⟩, k_at 622 (by decide +kernel) rfl, k_at 623 (by decide +kernel) rfl⟩
theorem mp_X10_days : plainName mX10_days.1.cls = true := by decide +kernel
theorem mV_X10_loose : k_mV mX10_loose 1 := ⟨⟨k_at 652 (by decide +kernel) rfl, k_at 72 (by decide +kernel) rfl, by decide +kernel, by decide⟩, k_at 650 (by decide +kernel) rfl, k_at 651 (by decide +kernel) rfl⟩
theorem mp_X10_loose : plainName mX10_loose.1.cls = true := by decide +kernel
theorem mV_X10_seed : k_mV mX10_seed 1 := ⟨⟨k_at 667 (by decide +kernel) rfl, k_at 72 (by decide +kernel) rfl, by decide +kernel, by decide⟩, k_at 665 (by decide +kernel) rfl, k_at 666 (by decide +kernel) rfl⟩
theorem mp_X10_seed : plainName mX10_seed.1.cls = true := by decide +kernel
theorem mV_X10_then : k_mV mX10_then 3 := ⟨⟨k_at 671 (by decide +kernel) rfl, k_at 72 (by decide +kernel) rfl, by decide +kernel, by decide⟩, k_at 669 (by decide +kernel) rfl, k_at 670 (by decide +kernel) rfl⟩
theorem mp_X10_then : plainName mX10_then.1.cls = true := by decide +kernel
theorem mV_X10_alone : k_mV mX10_alone 1 := ⟨⟨k_at 677 (by decide +kernel) rfl, k_at 72 (by decide +kernel) rfl, by decide +kernel, by decide⟩, k_at 675 (by decide +kernel) rfl, k_at 676 (by decide +kernel) rfl⟩
theorem mp_X10_alone : plainName mX10_alone.1.cls = true := by decide +kernel
theorem mV_X10_meet : k_mV mX10_meet 2 := ⟨⟨k_at 686 (by decide +kernel) rfl, k_at 72 (by decide +kernel) rfl, by decide +kernel, by decide⟩, k_at 684 (by decide +kernel) rfl, k_at 685 (by decide +kernel) rfl⟩
theorem mp_X10_meet : plainName mX10_meet.1.cls = true := by decide +kernel
theorem mV_X10_keepers : k_mV mX10_keepers 1 := ⟨⟨k_at 694 (by decide +kernel) rfl, k_at 72 (by decide +kernel) rfl, by decide +kernel, by decide⟩, k_at 692 (by decide +kernel) rfl, k_at 693 (by decide +kernel) rfl⟩
theorem mp_X10_keepers : plainName mX10_keepers.1.cls = true := by decide +kernel
theorem mV_X10_buys : k_mV mX10_buys 2 := ⟨⟨k_at 715 (by decide +kernel) rfl, k_at 72 (by decide +kernel) rfl, by decide +kernel, by decide⟩, k_at 713 (by decide +kernel) rfl, k_at 714 (by decide +kernel) rfl⟩
theorem mp_X10_buys : plainName mX10_buys.1.cls = true := by decide +kernel
theorem mV_X10_bailiffs : k_mV mX10_bailiffs 3 := ⟨⟨k_at 733 (by decide +kernel) rfl, k_at 72 (by decide +kernel) rfl, by decide +kernel, by decide⟩, k_at 731 (by decide +kernel) rfl, k_at 732 (by decide +kernel) rfl⟩
theorem mp_X10_bailiffs : plainName mX10_bailiffs.1.cls = true := by decide +kernel
theorem mV_X10_odds : k_mV mX10_odds 2 := ⟨⟨k_at 776 (by decide +kernel) rfl, k_at 72 (by decide +kernel) rfl, by decide +kernel, by decide⟩, k_at 774 (by decide +kernel) rfl, k_at 775 (by decide +kernel) rfl⟩
theorem mp_X10_odds : plainName mX10_odds.1.cls = true := by decide +kernel
theorem mV_X10_fits : k_mV mX10_fits 1 := ⟨⟨k_at 783 (by decide +kernel) rfl, k_at 72 (by decide +kernel) rfl, by decide +kernel, by decide⟩, k_at 781 (by decide +kernel) rfl, k_at 782 (by decide +kernel) rfl⟩
theorem mp_X10_fits : plainName mX10_fits.1.cls = true := by decide +kernel
theorem mV_X10_livesAsTold : k_mV mX10_livesAsTold 2 := ⟨⟨k_at 794 (by decide +kernel) rfl, k_at 72 (by decide +kernel) rfl, by decide +kernel, by decide⟩, k_at 793 (by decide +kernel) rfl, k_at 16 (by decide +kernel) rfl⟩
theorem mp_X10_livesAsTold : plainName mX10_livesAsTold.1.cls = true := by decide +kernel
theorem mV_X10_voice : k_mV mX10_voice 3 := ⟨⟨k_at 802 (by decide +kernel) rfl, k_at 72 (by decide +kernel) rfl, by decide +kernel, by decide⟩, k_at 800 (by decide +kernel) rfl, k_at 801 (by decide +kernel) rfl⟩
theorem mp_X10_voice : plainName mX10_voice.1.cls = true := by decide +kernel
theorem mV_X10_body : k_mV mX10_body 1 := ⟨⟨k_at 838 (by decide +kernel) rfl, k_at 72 (by decide +kernel) rfl, by decide +kernel, by decide⟩, k_at 836 (by decide +kernel) rfl, k_at 837 (by decide +kernel) rfl⟩
theorem mp_X10_body : plainName mX10_body.1.cls = true := by decide +kernel
theorem mV_X10_sheet : k_mV mX10_sheet 3 := ⟨⟨k_at 842 (by decide +kernel) rfl, k_at 72 (by decide +kernel) rfl, by decide +kernel, by decide⟩, k_at 840 (by decide +kernel) rfl, k_at 841 (by decide +kernel) rfl⟩
theorem mp_X10_sheet : plainName mX10_sheet.1.cls = true := by decide +kernel
theorem mV_X10_put : k_mV mX10_put 3 := ⟨⟨k_at 850 (by decide +kernel) rfl, k_at 72 (by decide +kernel) rfl, by decide +kernel, by decide⟩, k_at 848 (by decide +kernel) rfl, k_at 849 (by decide +kernel) rfl⟩
theorem mp_X10_put : plainName mX10_put.1.cls = true := by decide +kernel
theorem mV_X10_move : k_mV mX10_move 5 := ⟨⟨k_at 858 (by decide +kernel) rfl, k_at 72 (by decide +kernel) rfl, by decide +kernel, by decide⟩, k_at 856 (by decide +kernel) rfl, k_at 857 (by decide +kernel) rfl⟩
theorem mp_X10_move : plainName mX10_move.1.cls = true := by decide +kernel
theorem mV_X10_funds : k_mV mX10_funds 1 := ⟨⟨k_at 871 (by decide +kernel) rfl, k_at 72 (by decide +kernel) rfl, by decide +kernel, by decide⟩, k_at 869 (by decide +kernel) rfl, k_at 870 (by decide +kernel) rfl⟩
theorem mp_X10_funds : plainName mX10_funds.1.cls = true := by decide +kernel
theorem mV_X10_judge : k_mV mX10_judge 1 := ⟨⟨k_at 876 (by decide +kernel) rfl, k_at 72 (by decide +kernel) rfl, by decide +kernel, by decide⟩, k_at 874 (by decide +kernel) rfl, k_at 875 (by decide +kernel) rfl⟩
theorem mp_X10_judge : plainName mX10_judge.1.cls = true := by decide +kernel
theorem mV_X10_image : k_mV mX10_image 0 := ⟨⟨k_at 880 (by decide +kernel) rfl, k_at 72 (by decide +kernel) rfl, by decide +kernel, by decide⟩, k_at 878 (by decide +kernel) rfl, k_at 879 (by decide +kernel) rfl⟩
theorem mp_X10_image : plainName mX10_image.1.cls = true := by decide +kernel
theorem mV_X10_restore : k_mV mX10_restore 0 := ⟨⟨k_at 899 (by decide +kernel) rfl, k_at 72 (by decide +kernel) rfl, by decide +kernel, by decide⟩, k_at 897 (by decide +kernel) rfl, k_at 898 (by decide +kernel) rfl⟩
theorem mp_X10_restore : plainName mX10_restore.1.cls = true := by decide +kernel
theorem mV_X10_tell : k_mV mX10_tell 1 := ⟨⟨k_at 903 (by decide +kernel) rfl, k_at 72 (by decide +kernel) rfl, by decide +kernel, by decide⟩, k_at 901 (by decide +kernel) rfl, k_at 902 (by decide +kernel) rfl⟩
theorem mp_X10_tell : plainName mX10_tell.1.cls = true := by decide +kernel
theorem mV_X10_check : k_mV mX10_check 0 := ⟨⟨k_at 907 (by decide +kernel) rfl, k_at 72 (by decide +kernel) rfl, by decide +kernel, by decide⟩, k_at 905 (by decide +kernel) rfl, k_at 906 (by decide +kernel) rfl⟩
theorem mp_X10_check : plainName mX10_check.1.cls = true := by decide +kernel
theorem mV_X10_count : k_mV mX10_count 1 := ⟨⟨k_at 911 (by decide +kernel) rfl, k_at 72 (by decide +kernel) rfl, by decide +kernel, by decide⟩, k_at 909 (by decide +kernel) rfl, k_at 910 (by decide +kernel) rfl⟩
theorem mp_X10_count : plainName mX10_count.1.cls = true := by decide +kernel
theorem mV_X10_told : k_mV mX10_told 1 := ⟨⟨k_at 915 (by decide +kernel) rfl, k_at 72 (by decide +kernel) rfl, by decide +kernel, by decide⟩, k_at 913 (by decide +kernel) rfl, k_at 914 (by decide +kernel) rfl⟩
theorem mp_X10_told : plainName mX10_told.1.cls = true := by decide +kernel
theorem mV_X11_error : k_mV mX11_error 1 := ⟨⟨k_at 1009 (by decide +kernel) rfl, k_at 82 (by decide +kernel) rfl, by decide +kernel, by decide⟩, k_at 1008 (by decide +kernel) rfl, k_at 20 (by decide +kernel) rfl⟩
theorem mp_X11_error : plainName mX11_error.1.cls = true := by decide +kernel
theorem mS_X11_in : k_mS mX11_in 3 := ⟨⟨k_at 1004 (by decide +kernel) rfl, k_at 82 (by decide +kernel) rfl, by decide +kernel, by decide⟩, k_at 1003 (by decide +kernel) rfl⟩
theorem mp_X11_in : plainName mX11_in.1.cls = true := by decide +kernel
theorem mS_X11_held : k_mS mX11_held 3 := ⟨⟨k_at 1081 (by decide +kernel) rfl, k_at 82 (by decide +kernel) rfl, by decide +kernel, by decide⟩, k_at 1080 (by decide +kernel) rfl⟩
theorem mp_X11_held : plainName mX11_held.1.cls = true := by decide +kernel
theorem mS_X11_copyAll : k_mS mX11_copyAll 2 := ⟨⟨k_at 1109 (by decide +kernel) rfl, k_at 82 (by decide +kernel) rfl, by decide +kernel, by decide⟩, k_at 1108 (by decide +kernel) rfl⟩
theorem mp_X11_copyAll : plainName mX11_copyAll.1.cls = true := by decide +kernel
theorem mS_X11_bits : k_mS mX11_bits 1 := ⟨⟨k_at 1251 (by decide +kernel) rfl, k_at 82 (by decide +kernel) rfl, by decide +kernel, by decide⟩, k_at 1250 (by decide +kernel) rfl⟩
theorem mp_X11_bits : plainName mX11_bits.1.cls = true := by decide +kernel
theorem mV_X11_isPerson : k_mV mX11_isPerson 1 := ⟨⟨k_at 1023 (by decide +kernel) rfl, k_at 82 (by decide +kernel) rfl, by decide +kernel, by decide⟩, k_at 1022 (by decide +kernel) rfl, k_at 22 (by decide +kernel) rfl⟩
theorem mp_X11_isPerson : plainName mX11_isPerson.1.cls = true := by decide +kernel
theorem mV_X11_areTwo : k_mV mX11_areTwo 2 := ⟨⟨k_at 1089 (by decide +kernel) rfl, k_at 82 (by decide +kernel) rfl, by decide +kernel, by decide⟩, k_at 1088 (by decide +kernel) rfl, k_at 29 (by decide +kernel) rfl⟩
theorem mp_X11_areTwo : plainName mX11_areTwo.1.cls = true := by decide +kernel
theorem mS_X11_isDay : k_mS mX11_isDay 1 := ⟨⟨k_at 1055 (by decide +kernel) rfl, k_at 82 (by decide +kernel) rfl, by decide +kernel, by decide⟩, k_at 1054 (by decide +kernel) rfl⟩
theorem mp_X11_isDay : plainName mX11_isDay.1.cls = true := by decide +kernel
theorem mV_X11_becomes : k_mV mX11_becomes 2 := ⟨⟨k_at 1039 (by decide +kernel) rfl, k_at 82 (by decide +kernel) rfl, by decide +kernel, by decide⟩, k_at 1038 (by decide +kernel) rfl, k_at 25 (by decide +kernel) rfl⟩
theorem mp_X11_becomes : plainName mX11_becomes.1.cls = true := by decide +kernel
theorem mV_X11_of : k_mV mX11_of 2 := ⟨⟨k_at 1027 (by decide +kernel) rfl, k_at 82 (by decide +kernel) rfl, by decide +kernel, by decide⟩, k_at 1026 (by decide +kernel) rfl, k_at 23 (by decide +kernel) rfl⟩
theorem mp_X11_of : plainName mX11_of.1.cls = true := by decide +kernel
theorem mV_X11_lay : k_mV mX11_lay 3 := ⟨⟨k_at 1015 (by decide +kernel) rfl, k_at 82 (by decide +kernel) rfl, by decide +kernel, by decide⟩, k_at 1014 (by decide +kernel) rfl, k_at 21 (by decide +kernel) rfl⟩
theorem mp_X11_lay : plainName mX11_lay.1.cls = true := by decide +kernel
theorem mV_X11_said : k_mV mX11_said 2 := ⟨⟨k_at 1125 (by decide +kernel) rfl, k_at 82 (by decide +kernel) rfl, by decide +kernel, by decide⟩, k_at 1124 (by decide +kernel) rfl, k_at 34 (by decide +kernel) rfl⟩
theorem mp_X11_said : plainName mX11_said.1.cls = true := by decide +kernel
theorem mV_X11_counts : k_mV mX11_counts 1 := ⟨⟨k_at 1214 (by decide +kernel) rfl, k_at 82 (by decide +kernel) rfl, by decide +kernel, by decide⟩, k_at 1213 (by decide +kernel) rfl, k_at 51 (by decide +kernel) rfl⟩
theorem mp_X11_counts : plainName mX11_counts.1.cls = true := by decide +kernel
theorem mV_X11_livesOf : k_mV mX11_livesOf 2 := ⟨⟨k_at 1031 (by decide +kernel) rfl, k_at 82 (by decide +kernel) rfl, by decide +kernel, by decide⟩, k_at 1030 (by decide +kernel) rfl, k_at 24 (by decide +kernel) rfl⟩
theorem mp_X11_livesOf : plainName mX11_livesOf.1.cls = true := by decide +kernel
theorem mV_X11_isUp : k_mV mX11_isUp 2 := ⟨⟨k_at 1133 (by decide +kernel) rfl, k_at 82 (by decide +kernel) rfl, by decide +kernel, by decide⟩, k_at 1132 (by decide +kernel) rfl, k_at 36 (by decide +kernel) rfl⟩
theorem mp_X11_isUp : plainName mX11_isUp.1.cls = true := by decide +kernel
theorem mV_X11_manyUp : k_mV mX11_manyUp 1 := ⟨⟨k_at 1206 (by decide +kernel) rfl, k_at 82 (by decide +kernel) rfl, by decide +kernel, by decide⟩, k_at 1205 (by decide +kernel) rfl, k_at 49 (by decide +kernel) rfl⟩
theorem mp_X11_manyUp : plainName mX11_manyUp.1.cls = true := by decide +kernel
theorem mV_X11_isKept : k_mV mX11_isKept 1 := ⟨⟨k_at 1129 (by decide +kernel) rfl, k_at 82 (by decide +kernel) rfl, by decide +kernel, by decide⟩, k_at 1128 (by decide +kernel) rfl, k_at 35 (by decide +kernel) rfl⟩
theorem mp_X11_isKept : plainName mX11_isKept.1.cls = true := by decide +kernel
theorem mV_X11_notKept : k_mV mX11_notKept 0 := ⟨⟨k_at 1275 (by decide +kernel) rfl, k_at 82 (by decide +kernel) rfl, by decide +kernel, by decide⟩, k_at 1274 (by decide +kernel) rfl, k_at 57 (by decide +kernel) rfl⟩
theorem mp_X11_notKept : plainName mX11_notKept.1.cls = true := by decide +kernel
theorem mS_X11_isKm : k_mS mX11_isKm 1 := ⟨⟨k_at 1001 (by decide +kernel) rfl, k_at 82 (by decide +kernel) rfl, by decide +kernel, by decide⟩, k_at 1000 (by decide +kernel) rfl⟩
theorem mp_X11_isKm : plainName mX11_isKm.1.cls = true := by decide +kernel
theorem mV_X11_person : k_mV mX11_person 1 := ⟨⟨k_at 998 (by decide +kernel) rfl, k_at 82 (by decide +kernel) rfl, by decide +kernel, by decide⟩, k_at 996 (by decide +kernel) rfl, k_at 997 (by decide +kernel) rfl⟩
theorem mp_X11_person : plainName mX11_person.1.cls = true := by decide +kernel
theorem mV_X11_personIs : k_mV mX11_personIs 2 := ⟨⟨k_at 1019 (by decide +kernel) rfl, k_at 82 (by decide +kernel) rfl, by decide +kernel, by decide⟩, k_at 1017 (by decide +kernel) rfl, k_at 1018 (by decide +kernel) rfl⟩
theorem mp_X11_personIs : plainName mX11_personIs.1.cls = true := by decide +kernel
theorem mV_X11_become : k_mV mX11_become 2 := ⟨⟨k_at 1035 (by decide +kernel) rfl, k_at 82 (by decide +kernel) rfl, by decide +kernel, by decide⟩, k_at 1033 (by decide +kernel) rfl, k_at 1034 (by decide +kernel) rfl⟩
theorem mp_X11_become : plainName mX11_become.1.cls = true := by decide +kernel
theorem mV_X11_as : k_mV mX11_as 2 := ⟨⟨k_at 1043 (by decide +kernel) rfl, k_at 82 (by decide +kernel) rfl, by decide +kernel, by decide⟩, k_at 1041 (by decide +kernel) rfl, k_at 1042 (by decide +kernel) rfl⟩
theorem mp_X11_as : plainName mX11_as.1.cls = true := by decide +kernel
theorem mV_X11_change : k_mV mX11_change 3 := ⟨⟨k_at 1048 (by decide +kernel) rfl, k_at 82 (by decide +kernel) rfl, by decide +kernel, by decide⟩, k_at 1046 (by decide +kernel) rfl, k_at 1047 (by decide +kernel) rfl⟩
theorem mp_X11_change : plainName mX11_change.1.cls = true := by decide +kernel
theorem mV_X11_has : k_mV mX11_has 2 := ⟨⟨k_at 1052 (by decide +kernel) rfl, k_at 82 (by decide +kernel) rfl, by decide +kernel, by decide⟩, k_at 1050 (by decide +kernel) rfl, k_at 1051 (by decide +kernel) rfl⟩
theorem mp_X11_has : plainName mX11_has.1.cls = true := by decide +kernel
theorem mV_X11_give : k_mV mX11_give 3 := ⟨⟨k_at 1059 (by decide +kernel) rfl, k_at 82 (by decide +kernel) rfl, by decide +kernel, by decide⟩, k_at 1057 (by decide +kernel) rfl, k_at 1058 (by decide +kernel) rfl⟩
theorem mp_X11_give : plainName mX11_give.1.cls = true := by decide +kernel
theorem mV_X11_priceOf : k_mV mX11_priceOf 2 := ⟨⟨k_at 1067 (by decide +kernel) rfl, k_at 82 (by decide +kernel) rfl, by decide +kernel, by decide⟩, k_at 1066 (by decide +kernel) rfl, k_at 26 (by decide +kernel) rfl⟩
theorem mp_X11_priceOf : plainName mX11_priceOf.1.cls = true := by decide +kernel
theorem mV_X11_canSell : k_mV mX11_canSell 3 := ⟨⟨k_at 1093 (by decide +kernel) rfl, k_at 82 (by decide +kernel) rfl, by decide +kernel, by decide⟩, k_at 1092 (by decide +kernel) rfl, k_at 30 (by decide +kernel) rfl⟩
theorem mp_X11_canSell : plainName mX11_canSell.1.cls = true := by decide +kernel
theorem mV_X11_sells : k_mV mX11_sells 3 := ⟨⟨k_at 1097 (by decide +kernel) rfl, k_at 82 (by decide +kernel) rfl, by decide +kernel, by decide⟩, k_at 1096 (by decide +kernel) rfl, k_at 31 (by decide +kernel) rfl⟩
theorem mp_X11_sells : plainName mX11_sells.1.cls = true := by decide +kernel
theorem mV_X11_price : k_mV mX11_price 2 := ⟨⟨k_at 1063 (by decide +kernel) rfl, k_at 82 (by decide +kernel) rfl, by decide +kernel, by decide⟩, k_at 1061 (by decide +kernel) rfl, k_at 1062 (by decide +kernel) rfl⟩
theorem mp_X11_price : plainName mX11_price.1.cls = true := by decide +kernel
theorem mV_X11_sell : k_mV mX11_sell 3 := ⟨⟨k_at 1085 (by decide +kernel) rfl, k_at 82 (by decide +kernel) rfl, by decide +kernel, by decide⟩, k_at 1083 (by decide +kernel) rfl, k_at 1084 (by decide +kernel) rfl⟩
theorem mp_X11_sell : plainName mX11_sell.1.cls = true := by decide +kernel
theorem mV_X11_sellWeek : k_mV mX11_sellWeek 3 := ⟨⟨k_at 1102 (by decide +kernel) rfl, k_at 82 (by decide +kernel) rfl, by decide +kernel, by decide⟩, k_at 1100 (by decide +kernel) rfl, k_at 1101 (by decide +kernel) rfl⟩
theorem mp_X11_sellWeek : plainName mX11_sellWeek.1.cls = true := by decide +kernel
theorem mV_X11_promise : k_mV mX11_promise 3 := ⟨⟨k_at 1117 (by decide +kernel) rfl, k_at 82 (by decide +kernel) rfl, by decide +kernel, by decide⟩, k_at 1115 (by decide +kernel) rfl, k_at 1116 (by decide +kernel) rfl⟩
theorem mp_X11_promise : plainName mX11_promise.1.cls = true := by decide +kernel
theorem mV_X11_promiseIs : k_mV mX11_promiseIs 2 := ⟨⟨k_at 1121 (by decide +kernel) rfl, k_at 82 (by decide +kernel) rfl, by decide +kernel, by decide⟩, k_at 1119 (by decide +kernel) rfl, k_at 1120 (by decide +kernel) rfl⟩
theorem mp_X11_promiseIs : plainName mX11_promiseIs.1.cls = true := by decide +kernel
theorem mV_X11_feed : k_mV mX11_feed 2 := ⟨⟨k_at 1137 (by decide +kernel) rfl, k_at 82 (by decide +kernel) rfl, by decide +kernel, by decide⟩, k_at 1135 (by decide +kernel) rfl, k_at 1136 (by decide +kernel) rfl⟩
theorem mp_X11_feed : plainName mX11_feed.1.cls = true := by decide +kernel
theorem mV_X11_look : k_mV mX11_look 0 := ⟨⟨k_at 1170 (by decide +kernel) rfl, k_at 82 (by decide +kernel) rfl, by decide +kernel, by decide⟩, k_at 1169 (by decide +kernel) rfl, k_at 43 (by decide +kernel) rfl⟩
theorem mp_X11_look : plainName mX11_look.1.cls = true := by decide +kernel
theorem mV_X11_step : k_mV mX11_step 2 := ⟨⟨k_at 1178 (by decide +kernel) rfl, k_at 82 (by decide +kernel) rfl, by decide +kernel, by decide⟩, k_at 1177 (by decide +kernel) rfl, k_at 45 (by decide +kernel) rfl⟩
theorem mp_X11_step : plainName mX11_step.1.cls = true := by decide +kernel
theorem mV_X11_nameOf : k_mV mX11_nameOf 1 := ⟨⟨k_at 1174 (by decide +kernel) rfl, k_at 82 (by decide +kernel) rfl, by decide +kernel, by decide⟩, k_at 1173 (by decide +kernel) rfl, k_at 44 (by decide +kernel) rfl⟩
theorem mp_X11_nameOf : plainName mX11_nameOf.1.cls = true := by decide +kernel
theorem mV_X11_number : k_mV mX11_number 0 := ⟨⟨k_at 1186 (by decide +kernel) rfl, k_at 82 (by decide +kernel) rfl, by decide +kernel, by decide⟩, k_at 1185 (by decide +kernel) rfl, k_at 47 (by decide +kernel) rfl⟩
theorem mp_X11_number : plainName mX11_number.1.cls = true := by decide +kernel
theorem mV_X11_opens : k_mV mX11_opens 1 := ⟨⟨k_at 1182 (by decide +kernel) rfl, k_at 82 (by decide +kernel) rfl, by decide +kernel, by decide⟩, k_at 1181 (by decide +kernel) rfl, k_at 46 (by decide +kernel) rfl⟩
theorem mp_X11_opens : plainName mX11_opens.1.cls = true := by decide +kernel
theorem mV_X11_one : k_mV mX11_one 0 := ⟨⟨k_at 1166 (by decide +kernel) rfl, k_at 82 (by decide +kernel) rfl, by decide +kernel, by decide⟩, k_at 1165 (by decide +kernel) rfl, k_at 42 (by decide +kernel) rfl⟩
theorem mp_X11_one : plainName mX11_one.1.cls = true := by decide +kernel
theorem mV_X11_times : k_mV mX11_times 0 := ⟨⟨k_at 1162 (by decide +kernel) rfl, k_at 82 (by decide +kernel) rfl, by decide +kernel, by decide⟩, k_at 1161 (by decide +kernel) rfl, k_at 41 (by decide +kernel) rfl⟩
theorem mp_X11_times : plainName mX11_times.1.cls = true := by decide +kernel
theorem mV_X11_sum : k_mV mX11_sum 0 := ⟨⟨k_at 1158 (by decide +kernel) rfl, k_at 82 (by decide +kernel) rfl, by decide +kernel, by decide⟩, k_at 1157 (by decide +kernel) rfl, k_at 40 (by decide +kernel) rfl⟩
theorem mp_X11_sum : plainName mX11_sum.1.cls = true := by decide +kernel
theorem mV_X11_compares : k_mV mX11_compares 0 := ⟨⟨k_at 1154 (by decide +kernel) rfl, k_at 82 (by decide +kernel) rfl, by decide +kernel, by decide⟩, k_at 1153 (by decide +kernel) rfl, k_at 39 (by decide +kernel) rfl⟩
theorem mp_X11_compares : plainName mX11_compares.1.cls = true := by decide +kernel
theorem mV_X11_all : k_mV mX11_all 0 := ⟨⟨k_at 1150 (by decide +kernel) rfl, k_at 82 (by decide +kernel) rfl, by decide +kernel, by decide⟩, k_at 1149 (by decide +kernel) rfl, k_at 38 (by decide +kernel) rfl⟩
theorem mp_X11_all : plainName mX11_all.1.cls = true := by decide +kernel
theorem mV_X11_any : k_mV mX11_any 0 := ⟨⟨k_at 1146 (by decide +kernel) rfl, k_at 82 (by decide +kernel) rfl, by decide +kernel, by decide⟩, k_at 1145 (by decide +kernel) rfl, k_at 37 (by decide +kernel) rfl⟩
theorem mp_X11_any : plainName mX11_any.1.cls = true := by decide +kernel
theorem mV_X11_text : k_mV mX11_text 1 := ⟨⟨k_at 1142 (by decide +kernel) rfl, k_at 82 (by decide +kernel) rfl, by decide +kernel, by decide⟩, k_at 1140 (by decide +kernel) rfl, k_at 1141 (by decide +kernel) rfl⟩
theorem mp_X11_text : plainName mX11_text.1.cls = true := by decide +kernel
theorem mV_X11_untell : k_mV mX11_untell 1 := ⟨⟨k_at 1190 (by decide +kernel) rfl, k_at 82 (by decide +kernel) rfl, by decide +kernel, by decide⟩, k_at 1188 (by decide +kernel) rfl, k_at 1189 (by decide +kernel) rfl⟩
theorem mp_X11_untell : plainName mX11_untell.1.cls = true := by decide +kernel
theorem mS_X11_twoOf : k_mS mX11_twoOf 3 := ⟨⟨k_at 1078 (by decide +kernel) rfl, k_at 82 (by decide +kernel) rfl, by decide +kernel, by decide⟩, k_at 1077 (by decide +kernel) rfl⟩
theorem mp_X11_twoOf : plainName mX11_twoOf.1.cls = true := by decide +kernel
theorem mV_X11_works : k_mV mX11_works 1 := ⟨⟨k_at 1075 (by decide +kernel) rfl, k_at 82 (by decide +kernel) rfl, by decide +kernel, by decide⟩, k_at 1074 (by decide +kernel) rfl, k_at 28 (by decide +kernel) rfl⟩
theorem mp_X11_works : plainName mX11_works.1.cls = true := by decide +kernel
theorem mV_X11_gives : k_mV mX11_gives 4 := ⟨⟨k_at 1071 (by decide +kernel) rfl, k_at 82 (by decide +kernel) rfl, by decide +kernel, by decide⟩, k_at 1070 (by decide +kernel) rfl, k_at 27 (by decide +kernel) rfl⟩
theorem mp_X11_gives : plainName mX11_gives.1.cls = true := by decide +kernel
theorem mV_X11_law : k_mV mX11_law 4 := ⟨⟨k_at 1194 (by decide +kernel) rfl, k_at 82 (by decide +kernel) rfl, by decide +kernel, by decide⟩, k_at 1192 (by decide +kernel) rfl, k_at 1193 (by decide +kernel) rfl⟩
theorem mp_X11_law : plainName mX11_law.1.cls = true := by decide +kernel
theorem mV_X11_lives : k_mV mX11_lives 2 := ⟨⟨k_at 1210 (by decide +kernel) rfl, k_at 82 (by decide +kernel) rfl, by decide +kernel, by decide⟩, k_at 1209 (by decide +kernel) rfl, k_at 50 (by decide +kernel) rfl⟩
theorem mp_X11_lives : plainName mX11_lives.1.cls = true := by decide +kernel
theorem mV_X11_goes : k_mV mX11_goes 0 := ⟨⟨k_at 1202 (by decide +kernel) rfl, k_at 82 (by decide +kernel) rfl, by decide +kernel, by decide⟩, k_at 1201 (by decide +kernel) rfl, k_at 48 (by decide +kernel) rfl⟩
theorem mp_X11_goes : plainName mX11_goes.1.cls = true := by decide +kernel
theorem mV_X11_days : k_mV mX11_days 1 := ⟨⟨k_at 1198 (by decide +kernel) rfl, k_at 82 (by decide +kernel) rfl, by decide +kernel, by decide⟩, k_at 1196 (by decide +kernel) rfl, k_at 1197 (by decide +kernel) rfl⟩
theorem mp_X11_days : plainName mX11_days.1.cls = true := by decide +kernel
theorem mV_X11_draw : k_mV mX11_draw 0 := ⟨⟨k_at 1226 (by decide +kernel) rfl, k_at 82 (by decide +kernel) rfl, by decide +kernel, by decide⟩, k_at 1225 (by decide +kernel) rfl, k_at 53 (by decide +kernel) rfl⟩
theorem mp_X11_draw : plainName mX11_draw.1.cls = true := by decide +kernel
theorem mV_X11_drawn : k_mV mX11_drawn 0 := ⟨⟨k_at 1222 (by decide +kernel) rfl, k_at 82 (by decide +kernel) rfl, by decide +kernel, by decide⟩, k_at 1221 (by decide +kernel) rfl, k_at 52 (by decide +kernel) rfl⟩
theorem mp_X11_drawn : plainName mX11_drawn.1.cls = true := by decide +kernel
theorem mV_X11_loose : k_mV mX11_loose 1 := ⟨⟨k_at 1218 (by decide +kernel) rfl, k_at 82 (by decide +kernel) rfl, by decide +kernel, by decide⟩, k_at 1216 (by decide +kernel) rfl, k_at 1217 (by decide +kernel) rfl⟩
theorem mp_X11_loose : plainName mX11_loose.1.cls = true := by decide +kernel
theorem mV_X11_seed : k_mV mX11_seed 1 := ⟨⟨k_at 1231 (by decide +kernel) rfl, k_at 82 (by decide +kernel) rfl, by decide +kernel, by decide⟩, k_at 1229 (by decide +kernel) rfl, k_at 1230 (by decide +kernel) rfl⟩
theorem mp_X11_seed : plainName mX11_seed.1.cls = true := by decide +kernel
theorem mV_X11_thinks : k_mV mX11_thinks 0 := ⟨⟨k_at 1106 (by decide +kernel) rfl, k_at 82 (by decide +kernel) rfl, by decide +kernel, by decide⟩, k_at 1105 (by decide +kernel) rfl, k_at 32 (by decide +kernel) rfl⟩
theorem mp_X11_thinks : plainName mX11_thinks.1.cls = true := by decide +kernel
theorem mV_X11_putsBack : k_mV mX11_putsBack 0 := ⟨⟨k_at 1113 (by decide +kernel) rfl, k_at 82 (by decide +kernel) rfl, by decide +kernel, by decide⟩, k_at 1112 (by decide +kernel) rfl, k_at 33 (by decide +kernel) rfl⟩
theorem mp_X11_putsBack : plainName mX11_putsBack.1.cls = true := by decide +kernel
theorem mV_X11_then : k_mV mX11_then 3 := ⟨⟨k_at 1235 (by decide +kernel) rfl, k_at 82 (by decide +kernel) rfl, by decide +kernel, by decide⟩, k_at 1233 (by decide +kernel) rfl, k_at 1234 (by decide +kernel) rfl⟩
theorem mp_X11_then : plainName mX11_then.1.cls = true := by decide +kernel
theorem mV_X11_alone : k_mV mX11_alone 1 := ⟨⟨k_at 1239 (by decide +kernel) rfl, k_at 82 (by decide +kernel) rfl, by decide +kernel, by decide⟩, k_at 1237 (by decide +kernel) rfl, k_at 1238 (by decide +kernel) rfl⟩
theorem mp_X11_alone : plainName mX11_alone.1.cls = true := by decide +kernel
theorem mV_X11_meet : k_mV mX11_meet 2 := ⟨⟨k_at 1243 (by decide +kernel) rfl, k_at 82 (by decide +kernel) rfl, by decide +kernel, by decide⟩, k_at 1241 (by decide +kernel) rfl, k_at 1242 (by decide +kernel) rfl⟩
theorem mp_X11_meet : plainName mX11_meet.1.cls = true := by decide +kernel
theorem mV_X11_doKeep : k_mV mX11_doKeep 1 := ⟨⟨k_at 1255 (by decide +kernel) rfl, k_at 82 (by decide +kernel) rfl, by decide +kernel, by decide⟩, k_at 1254 (by decide +kernel) rfl, k_at 54 (by decide +kernel) rfl⟩
theorem mp_X11_doKeep : plainName mX11_doKeep.1.cls = true := by decide +kernel
theorem mV_X11_keepers : k_mV mX11_keepers 1 := ⟨⟨k_at 1248 (by decide +kernel) rfl, k_at 82 (by decide +kernel) rfl, by decide +kernel, by decide⟩, k_at 1246 (by decide +kernel) rfl, k_at 1247 (by decide +kernel) rfl⟩
theorem mp_X11_keepers : plainName mX11_keepers.1.cls = true := by decide +kernel
theorem mV_X11_costing : k_mV mX11_costing 3 := ⟨⟨k_at 1263 (by decide +kernel) rfl, k_at 82 (by decide +kernel) rfl, by decide +kernel, by decide⟩, k_at 1262 (by decide +kernel) rfl, k_at 55 (by decide +kernel) rfl⟩
theorem mp_X11_costing : plainName mX11_costing.1.cls = true := by decide +kernel
theorem mV_X11_buys : k_mV mX11_buys 2 := ⟨⟨k_at 1259 (by decide +kernel) rfl, k_at 82 (by decide +kernel) rfl, by decide +kernel, by decide⟩, k_at 1257 (by decide +kernel) rfl, k_at 1258 (by decide +kernel) rfl⟩
theorem mp_X11_buys : plainName mX11_buys.1.cls = true := by decide +kernel
theorem mV_X11_takes : k_mV mX11_takes 5 := ⟨⟨k_at 1271 (by decide +kernel) rfl, k_at 82 (by decide +kernel) rfl, by decide +kernel, by decide⟩, k_at 1270 (by decide +kernel) rfl, k_at 56 (by decide +kernel) rfl⟩
theorem mp_X11_takes : plainName mX11_takes.1.cls = true := by decide +kernel
theorem mV_X11_bailiffs : k_mV mX11_bailiffs 3 := ⟨⟨k_at 1267 (by decide +kernel) rfl, k_at 82 (by decide +kernel) rfl, by decide +kernel, by decide⟩, k_at 1265 (by decide +kernel) rfl, k_at 1266 (by decide +kernel) rfl⟩
theorem mp_X11_bailiffs : plainName mX11_bailiffs.1.cls = true := by decide +kernel
theorem mV_X11_odds : k_mV mX11_odds 2 := ⟨⟨k_at 1279 (by decide +kernel) rfl, k_at 82 (by decide +kernel) rfl, by decide +kernel, by decide⟩, k_at 1277 (by decide +kernel) rfl, k_at 1278 (by decide +kernel) rfl⟩
theorem mp_X11_odds : plainName mX11_odds.1.cls = true := by decide +kernel
theorem mV_X11_fits : k_mV mX11_fits 1 := ⟨⟨k_at 1283 (by decide +kernel) rfl, k_at 82 (by decide +kernel) rfl, by decide +kernel, by decide⟩, k_at 1281 (by decide +kernel) rfl, k_at 1282 (by decide +kernel) rfl⟩
theorem mp_X11_fits : plainName mX11_fits.1.cls = true := by decide +kernel
theorem mV_X11_begins : k_mV mX11_begins 1 := ⟨⟨k_at 1306 (by decide +kernel) rfl, k_at 82 (by decide +kernel) rfl, by decide +kernel, by decide⟩, k_at 1305 (by decide +kernel) rfl, k_at 61 (by decide +kernel) rfl⟩
theorem mp_X11_begins : plainName mX11_begins.1.cls = true := by decide +kernel
theorem mV_X11_plainYawns : k_mV mX11_plainYawns 2 := ⟨⟨k_at 1310 (by decide +kernel) rfl, k_at 82 (by decide +kernel) rfl, by decide +kernel, by decide⟩, k_at 1309 (by decide +kernel) rfl, k_at 62 (by decide +kernel) rfl⟩
theorem mp_X11_plainYawns : plainName mX11_plainYawns.1.cls = true := by decide +kernel
theorem mV_X11_studentYawns : k_mV mX11_studentYawns 2 := ⟨⟨k_at 1302 (by decide +kernel) rfl, k_at 82 (by decide +kernel) rfl, by decide +kernel, by decide⟩, k_at 1301 (by decide +kernel) rfl, k_at 60 (by decide +kernel) rfl⟩
theorem mp_X11_studentYawns : plainName mX11_studentYawns.1.cls = true := by decide +kernel
theorem mV_X11_yawns : k_mV mX11_yawns 2 := ⟨⟨k_at 1298 (by decide +kernel) rfl, k_at 82 (by decide +kernel) rfl, by decide +kernel, by decide⟩, k_at 1297 (by decide +kernel) rfl, k_at 59 (by decide +kernel) rfl⟩
theorem mp_X11_yawns : plainName mX11_yawns.1.cls = true := by decide +kernel
theorem mV_X11_plainTrades : k_mV mX11_plainTrades 2 := ⟨⟨k_at 1322 (by decide +kernel) rfl, k_at 82 (by decide +kernel) rfl, by decide +kernel, by decide⟩, k_at 1321 (by decide +kernel) rfl, k_at 65 (by decide +kernel) rfl⟩
theorem mp_X11_plainTrades : plainName mX11_plainTrades.1.cls = true := by decide +kernel
theorem mV_X11_widowTrades : k_mV mX11_widowTrades 2 := ⟨⟨k_at 1318 (by decide +kernel) rfl, k_at 82 (by decide +kernel) rfl, by decide +kernel, by decide⟩, k_at 1317 (by decide +kernel) rfl, k_at 64 (by decide +kernel) rfl⟩
theorem mp_X11_widowTrades : plainName mX11_widowTrades.1.cls = true := by decide +kernel
theorem mV_X11_trades : k_mV mX11_trades 2 := ⟨⟨k_at 1314 (by decide +kernel) rfl, k_at 82 (by decide +kernel) rfl, by decide +kernel, by decide⟩, k_at 1313 (by decide +kernel) rfl, k_at 63 (by decide +kernel) rfl⟩
theorem mp_X11_trades : plainName mX11_trades.1.cls = true := by decide +kernel
theorem mV_X11_plainAges : k_mV mX11_plainAges 2 := ⟨⟨k_at 1330 (by decide +kernel) rfl, k_at 82 (by decide +kernel) rfl, by decide +kernel, by decide⟩, k_at 1329 (by decide +kernel) rfl, k_at 67 (by decide +kernel) rfl⟩
theorem mp_X11_plainAges : plainName mX11_plainAges.1.cls = true := by decide +kernel
theorem mV_X11_ages : k_mV mX11_ages 2 := ⟨⟨k_at 1326 (by decide +kernel) rfl, k_at 82 (by decide +kernel) rfl, by decide +kernel, by decide⟩, k_at 1325 (by decide +kernel) rfl, k_at 66 (by decide +kernel) rfl⟩
theorem mp_X11_ages : plainName mX11_ages.1.cls = true := by decide +kernel
theorem mV_X11_plainParts : k_mV mX11_plainParts 2 := ⟨⟨k_at 1338 (by decide +kernel) rfl, k_at 82 (by decide +kernel) rfl, by decide +kernel, by decide⟩, k_at 1337 (by decide +kernel) rfl, k_at 69 (by decide +kernel) rfl⟩
theorem mp_X11_plainParts : plainName mX11_plainParts.1.cls = true := by decide +kernel
theorem mV_X11_parts : k_mV mX11_parts 2 := ⟨⟨k_at 1334 (by decide +kernel) rfl, k_at 82 (by decide +kernel) rfl, by decide +kernel, by decide⟩, k_at 1333 (by decide +kernel) rfl, k_at 68 (by decide +kernel) rfl⟩
theorem mp_X11_parts : plainName mX11_parts.1.cls = true := by decide +kernel
theorem mV_X11_voice : k_mV mX11_voice 3 := ⟨⟨k_at 1294 (by decide +kernel) rfl, k_at 82 (by decide +kernel) rfl, by decide +kernel, by decide⟩, k_at 1292 (by decide +kernel) rfl, k_at 1293 (by decide +kernel) rfl⟩
theorem mp_X11_voice : plainName mX11_voice.1.cls = true := by decide +kernel
theorem mV_X11_body : k_mV mX11_body 1 := ⟨⟨k_at 1343 (by decide +kernel) rfl, k_at 82 (by decide +kernel) rfl, by decide +kernel, by decide⟩, k_at 1341 (by decide +kernel) rfl, k_at 1342 (by decide +kernel) rfl⟩
theorem mp_X11_body : plainName mX11_body.1.cls = true := by decide +kernel
theorem mS_X11_isSheet : k_mS mX11_isSheet 1 := ⟨⟨k_at 1290 (by decide +kernel) rfl, k_at 82 (by decide +kernel) rfl, by decide +kernel, by decide⟩, k_at 1289 (by decide +kernel) rfl⟩
theorem mp_X11_isSheet : plainName mX11_isSheet.1.cls = true := by decide +kernel
theorem mV_X11_sheet : k_mV mX11_sheet 3 := ⟨⟨k_at 1347 (by decide +kernel) rfl, k_at 82 (by decide +kernel) rfl, by decide +kernel, by decide⟩, k_at 1345 (by decide +kernel) rfl, k_at 1346 (by decide +kernel) rfl⟩
theorem mp_X11_sheet : plainName mX11_sheet.1.cls = true := by decide +kernel
theorem mV_X11_notThere : k_mV mX11_notThere 1 := ⟨⟨k_at 1287 (by decide +kernel) rfl, k_at 82 (by decide +kernel) rfl, by decide +kernel, by decide⟩, k_at 1286 (by decide +kernel) rfl, k_at 58 (by decide +kernel) rfl⟩
theorem mp_X11_notThere : plainName mX11_notThere.1.cls = true := by decide +kernel
theorem mV_X11_put : k_mV mX11_put 3 := ⟨⟨k_at 1351 (by decide +kernel) rfl, k_at 82 (by decide +kernel) rfl, by decide +kernel, by decide⟩, k_at 1349 (by decide +kernel) rfl, k_at 1350 (by decide +kernel) rfl⟩
theorem mp_X11_put : plainName mX11_put.1.cls = true := by decide +kernel
theorem mV_X11_notMoved : k_mV mX11_notMoved 5 := ⟨⟨k_at 1359 (by decide +kernel) rfl, k_at 82 (by decide +kernel) rfl, by decide +kernel, by decide⟩, k_at 1358 (by decide +kernel) rfl, k_at 70 (by decide +kernel) rfl⟩
theorem mp_X11_notMoved : plainName mX11_notMoved.1.cls = true := by decide +kernel
theorem mV_X11_move : k_mV mX11_move 5 := ⟨⟨k_at 1355 (by decide +kernel) rfl, k_at 82 (by decide +kernel) rfl, by decide +kernel, by decide⟩, k_at 1353 (by decide +kernel) rfl, k_at 1354 (by decide +kernel) rfl⟩
theorem mp_X11_move : plainName mX11_move.1.cls = true := by decide +kernel
theorem mV_X11_funds : k_mV mX11_funds 1 := ⟨⟨k_at 1363 (by decide +kernel) rfl, k_at 82 (by decide +kernel) rfl, by decide +kernel, by decide⟩, k_at 1361 (by decide +kernel) rfl, k_at 1362 (by decide +kernel) rfl⟩
theorem mp_X11_funds : plainName mX11_funds.1.cls = true := by decide +kernel
theorem mV_X11_judge : k_mV mX11_judge 1 := ⟨⟨k_at 1367 (by decide +kernel) rfl, k_at 82 (by decide +kernel) rfl, by decide +kernel, by decide⟩, k_at 1365 (by decide +kernel) rfl, k_at 1366 (by decide +kernel) rfl⟩
theorem mp_X11_judge : plainName mX11_judge.1.cls = true := by decide +kernel
theorem mV_X11_image : k_mV mX11_image 0 := ⟨⟨k_at 1371 (by decide +kernel) rfl, k_at 82 (by decide +kernel) rfl, by decide +kernel, by decide⟩, k_at 1369 (by decide +kernel) rfl, k_at 1370 (by decide +kernel) rfl⟩
theorem mp_X11_image : plainName mX11_image.1.cls = true := by decide +kernel
theorem mV_X11_restore : k_mV mX11_restore 0 := ⟨⟨k_at 1375 (by decide +kernel) rfl, k_at 82 (by decide +kernel) rfl, by decide +kernel, by decide⟩, k_at 1373 (by decide +kernel) rfl, k_at 1374 (by decide +kernel) rfl⟩
theorem mp_X11_restore : plainName mX11_restore.1.cls = true := by decide +kernel
theorem mV_X11_tell : k_mV mX11_tell 1 := ⟨⟨k_at 1379 (by decide +kernel) rfl, k_at 82 (by decide +kernel) rfl, by decide +kernel, by decide⟩, k_at 1377 (by decide +kernel) rfl, k_at 1378 (by decide +kernel) rfl⟩
theorem mp_X11_tell : plainName mX11_tell.1.cls = true := by decide +kernel
theorem mV_X11_check : k_mV mX11_check 0 := ⟨⟨k_at 1383 (by decide +kernel) rfl, k_at 82 (by decide +kernel) rfl, by decide +kernel, by decide⟩, k_at 1381 (by decide +kernel) rfl, k_at 1382 (by decide +kernel) rfl⟩
theorem mp_X11_check : plainName mX11_check.1.cls = true := by decide +kernel
theorem mV_X11_count : k_mV mX11_count 1 := ⟨⟨k_at 1387 (by decide +kernel) rfl, k_at 82 (by decide +kernel) rfl, by decide +kernel, by decide⟩, k_at 1385 (by decide +kernel) rfl, k_at 1386 (by decide +kernel) rfl⟩
theorem mp_X11_count : plainName mX11_count.1.cls = true := by decide +kernel
theorem mV_X11_told : k_mV mX11_told 1 := ⟨⟨k_at 1391 (by decide +kernel) rfl, k_at 82 (by decide +kernel) rfl, by decide +kernel, by decide⟩, k_at 1389 (by decide +kernel) rfl, k_at 1390 (by decide +kernel) rfl⟩
theorem mp_X11_told : plainName mX11_told.1.cls = true := by decide +kernel
theorem mS_J6_bitCount_0f7a4 : k_mS mJ6_bitCount_0f7a4 1 := ⟨⟨k_at 702 (by decide +kernel) rfl, k_at 86 (by decide +kernel) rfl, by decide +kernel, by decide⟩, k_at 701 (by decide +kernel) rfl⟩
theorem mp_J6_bitCount_0f7a4 : plainName mJ6_bitCount_0f7a4.1.cls = true := by decide +kernel
theorem mS_J9_max_7cf53 : k_mS mJ9_max_7cf53 2 := ⟨⟨k_at 485 (by decide +kernel) rfl, k_at 84 (by decide +kernel) rfl, by decide +kernel, by decide⟩, k_at 484 (by decide +kernel) rfl⟩
theorem mp_J9_max_7cf53 : plainName mJ9_max_7cf53.1.cls = true := by decide +kernel
theorem mS_J9_min_7cf53 : k_mS mJ9_min_7cf53 2 := ⟨⟨k_at 482 (by decide +kernel) rfl, k_at 84 (by decide +kernel) rfl, by decide +kernel, by decide⟩, k_at 481 (by decide +kernel) rfl⟩
theorem mp_J9_min_7cf53 : plainName mJ9_min_7cf53.1.cls = true := by decide +kernel
end
