-- ===== PART A: goes FIRST, ahead of the names: the tables' words, and 'selects' of the private methods out of them =====
/-- a private method of a class that the tables say can be made, by its rows of tables_1 -/
def lw_okq (q : MethodName × Nat) : Prop := (q.1.cls ≠ "java/lang/invoke/MethodHandle" ∧ q.1.cls ≠ "java/lang/invoke/VarHandle") ∧ Cond.instantiable q.1.cls q.2 ∈ tables_1 ∧ Cond.privateMethod q.1 ∈ tables_1 ∧ Cond.instanceMethod q.1 ∈ tables_1
theorem lw_p0 : lw_okq (⟨"SoldDays", "error", "(I)I"⟩, 8) := ⟨⟨by decide +kernel, by decide +kernel⟩, List.mem_of_getElem? (i := 17) (by decide +kernel), List.mem_of_getElem? (i := 299) (by decide +kernel), List.mem_of_getElem? (i := 300) (by decide +kernel)⟩
theorem lw_p1 : lw_okq (⟨"SoldDays$World", "dayCanPass", "(III)Z"⟩, 12) := ⟨⟨by decide +kernel, by decide +kernel⟩, List.mem_of_getElem? (i := 25) (by decide +kernel), List.mem_of_getElem? (i := 429) (by decide +kernel), List.mem_of_getElem? (i := 430) (by decide +kernel)⟩
theorem lw_p2 : lw_okq (⟨"SoldDays$World", "canPay", "(III)Z"⟩, 12) := ⟨⟨by decide +kernel, by decide +kernel⟩, List.mem_of_getElem? (i := 25) (by decide +kernel), List.mem_of_getElem? (i := 434) (by decide +kernel), List.mem_of_getElem? (i := 435) (by decide +kernel)⟩
theorem lw_p3 : lw_okq (⟨"SoldDays$Reader", "readLevel", "(II)V"⟩, 5) := ⟨⟨by decide +kernel, by decide +kernel⟩, List.mem_of_getElem? (i := 182) (by decide +kernel), List.mem_of_getElem? (i := 499) (by decide +kernel), List.mem_of_getElem? (i := 500) (by decide +kernel)⟩
theorem lw_p4 : lw_okq (⟨"SoldDays$Reader", "readQ", "(I)V"⟩, 5) := ⟨⟨by decide +kernel, by decide +kernel⟩, List.mem_of_getElem? (i := 182) (by decide +kernel), List.mem_of_getElem? (i := 503) (by decide +kernel), List.mem_of_getElem? (i := 504) (by decide +kernel)⟩
theorem lw_p5 : lw_okq (⟨"SoldDays$Reader", "nameHere", "()I"⟩, 5) := ⟨⟨by decide +kernel, by decide +kernel⟩, List.mem_of_getElem? (i := 182) (by decide +kernel), List.mem_of_getElem? (i := 507) (by decide +kernel), List.mem_of_getElem? (i := 508) (by decide +kernel)⟩
theorem lw_p6 : lw_okq (⟨"SoldDays$Reader", "here", "()I"⟩, 5) := ⟨⟨by decide +kernel, by decide +kernel⟩, List.mem_of_getElem? (i := 182) (by decide +kernel), List.mem_of_getElem? (i := 513) (by decide +kernel), List.mem_of_getElem? (i := 514) (by decide +kernel)⟩
theorem lw_p7 : lw_okq (⟨"SoldDays$Reader", "readNumber", "()V"⟩, 5) := ⟨⟨by decide +kernel, by decide +kernel⟩, List.mem_of_getElem? (i := 182) (by decide +kernel), List.mem_of_getElem? (i := 520) (by decide +kernel), List.mem_of_getElem? (i := 521) (by decide +kernel)⟩
theorem lw_p8 : lw_okq (⟨"SoldDays$Reader", "readClosing", "()V"⟩, 5) := ⟨⟨by decide +kernel, by decide +kernel⟩, List.mem_of_getElem? (i := 182) (by decide +kernel), List.mem_of_getElem? (i := 525) (by decide +kernel), List.mem_of_getElem? (i := 526) (by decide +kernel)⟩
theorem lw_p9 : lw_okq (⟨"SoldDays$Reader", "stopHere", "()V"⟩, 5) := ⟨⟨by decide +kernel, by decide +kernel⟩, List.mem_of_getElem? (i := 182) (by decide +kernel), List.mem_of_getElem? (i := 529) (by decide +kernel), List.mem_of_getElem? (i := 530) (by decide +kernel)⟩
theorem lw_p10 : lw_okq (⟨"SoldDays$World", "letOneLive", "(III)V"⟩, 12) := ⟨⟨by decide +kernel, by decide +kernel⟩, List.mem_of_getElem? (i := 25) (by decide +kernel), List.mem_of_getElem? (i := 561) (by decide +kernel), List.mem_of_getElem? (i := 562) (by decide +kernel)⟩
theorem lw_p11 : lw_okq (⟨"SoldDays$World", "settlePromises", "(I)V"⟩, 12) := ⟨⟨by decide +kernel, by decide +kernel⟩, List.mem_of_getElem? (i := 25) (by decide +kernel), List.mem_of_getElem? (i := 574) (by decide +kernel), List.mem_of_getElem? (i := 575) (by decide +kernel)⟩
theorem lw_p12 : lw_okq (⟨"SoldDays$World", "draw", "()I"⟩, 12) := ⟨⟨by decide +kernel, by decide +kernel⟩, List.mem_of_getElem? (i := 25) (by decide +kernel), List.mem_of_getElem? (i := 587) (by decide +kernel), List.mem_of_getElem? (i := 588) (by decide +kernel)⟩
theorem lw_p13 : lw_okq (⟨"SoldDays$Thoughts", "daysKeptBy", "(I)I"⟩, 3) := ⟨⟨by decide +kernel, by decide +kernel⟩, List.mem_of_getElem? (i := 207) (by decide +kernel), List.mem_of_getElem? (i := 636) (by decide +kernel), List.mem_of_getElem? (i := 637) (by decide +kernel)⟩
theorem lw_p14 : lw_okq (⟨"SoldDays$Thoughts", "leastOf", "(I)I"⟩, 3) := ⟨⟨by decide +kernel, by decide +kernel⟩, List.mem_of_getElem? (i := 207) (by decide +kernel), List.mem_of_getElem? (i := 652) (by decide +kernel), List.mem_of_getElem? (i := 653) (by decide +kernel)⟩
theorem lw_p15 : lw_okq (⟨"SoldDays$Thoughts", "isLess", "(II)Z"⟩, 3) := ⟨⟨by decide +kernel, by decide +kernel⟩, List.mem_of_getElem? (i := 207) (by decide +kernel), List.mem_of_getElem? (i := 656) (by decide +kernel), List.mem_of_getElem? (i := 657) (by decide +kernel)⟩
def lw_privs_1 : List (MethodName × Nat) := [(⟨"SoldDays", "error", "(I)I"⟩, 8), (⟨"SoldDays$World", "dayCanPass", "(III)Z"⟩, 12), (⟨"SoldDays$World", "canPay", "(III)Z"⟩, 12), (⟨"SoldDays$Reader", "readLevel", "(II)V"⟩, 5), (⟨"SoldDays$Reader", "readQ", "(I)V"⟩, 5), (⟨"SoldDays$Reader", "nameHere", "()I"⟩, 5), (⟨"SoldDays$Reader", "here", "()I"⟩, 5), (⟨"SoldDays$Reader", "readNumber", "()V"⟩, 5), (⟨"SoldDays$Reader", "readClosing", "()V"⟩, 5), (⟨"SoldDays$Reader", "stopHere", "()V"⟩, 5), (⟨"SoldDays$World", "letOneLive", "(III)V"⟩, 12), (⟨"SoldDays$World", "settlePromises", "(I)V"⟩, 12), (⟨"SoldDays$World", "draw", "()I"⟩, 12), (⟨"SoldDays$Thoughts", "daysKeptBy", "(I)I"⟩, 3), (⟨"SoldDays$Thoughts", "leastOf", "(I)I"⟩, 3), (⟨"SoldDays$Thoughts", "isLess", "(II)Z"⟩, 3)]
theorem lw_r1 : ∀ q ∈ lw_privs_1, lw_okq q := List.forall_mem_cons.mpr ⟨lw_p0, List.forall_mem_cons.mpr ⟨lw_p1, List.forall_mem_cons.mpr ⟨lw_p2, List.forall_mem_cons.mpr ⟨lw_p3, List.forall_mem_cons.mpr ⟨lw_p4, List.forall_mem_cons.mpr ⟨lw_p5, List.forall_mem_cons.mpr ⟨lw_p6, List.forall_mem_cons.mpr ⟨lw_p7, List.forall_mem_cons.mpr ⟨lw_p8, List.forall_mem_cons.mpr ⟨lw_p9, List.forall_mem_cons.mpr ⟨lw_p10, List.forall_mem_cons.mpr ⟨lw_p11, List.forall_mem_cons.mpr ⟨lw_p12, List.forall_mem_cons.mpr ⟨lw_p13, List.forall_mem_cons.mpr ⟨lw_p14, List.forall_mem_cons.mpr ⟨lw_p15, fun _ h => absurd h List.not_mem_nil⟩⟩⟩⟩⟩⟩⟩⟩⟩⟩⟩⟩⟩⟩⟩⟩
theorem lw_p16 : lw_okq (⟨"SoldDays", "livesAsTold", "(II)Z"⟩, 8) := ⟨⟨by decide +kernel, by decide +kernel⟩, List.mem_of_getElem? (i := 17) (by decide +kernel), List.mem_of_getElem? (i := 721) (by decide +kernel), List.mem_of_getElem? (i := 722) (by decide +kernel)⟩
theorem lw_p17 : lw_okq (⟨"SoldDays$Voices", "own", "(III)I"⟩, 5) := ⟨⟨by decide +kernel, by decide +kernel⟩, List.mem_of_getElem? (i := 223) (by decide +kernel), List.mem_of_getElem? (i := 737) (by decide +kernel), List.mem_of_getElem? (i := 738) (by decide +kernel)⟩
theorem lw_p18 : lw_okq (⟨"SoldDays$Voices", "sound", "(IIII)I"⟩, 5) := ⟨⟨by decide +kernel, by decide +kernel⟩, List.mem_of_getElem? (i := 223) (by decide +kernel), List.mem_of_getElem? (i := 741) (by decide +kernel), List.mem_of_getElem? (i := 742) (by decide +kernel)⟩
theorem lw_p19 : lw_okq (⟨"SoldDays$Voices", "part", "(II)I"⟩, 5) := ⟨⟨by decide +kernel, by decide +kernel⟩, List.mem_of_getElem? (i := 223) (by decide +kernel), List.mem_of_getElem? (i := 756) (by decide +kernel), List.mem_of_getElem? (i := 757) (by decide +kernel)⟩
theorem lw_p20 : lw_okq (⟨"SoldDays$Voices", "partAndTrade", "(III)I"⟩, 5) := ⟨⟨by decide +kernel, by decide +kernel⟩, List.mem_of_getElem? (i := 223) (by decide +kernel), List.mem_of_getElem? (i := 760) (by decide +kernel), List.mem_of_getElem? (i := 761) (by decide +kernel)⟩
theorem lw_p21 : lw_okq (⟨"SoldDaysModel", "error", "(I)I"⟩, 24) := ⟨⟨by decide +kernel, by decide +kernel⟩, List.mem_of_getElem? (i := 845) (by decide +kernel), List.mem_of_getElem? (i := 935) (by decide +kernel), List.mem_of_getElem? (i := 936) (by decide +kernel)⟩
theorem lw_p22 : lw_okq (⟨"SoldDaysModel", "lay", "(III)V"⟩, 24) := ⟨⟨by decide +kernel, by decide +kernel⟩, List.mem_of_getElem? (i := 845) (by decide +kernel), List.mem_of_getElem? (i := 941) (by decide +kernel), List.mem_of_getElem? (i := 942) (by decide +kernel)⟩
theorem lw_p23 : lw_okq (⟨"SoldDaysModel", "isPerson", "(I)Z"⟩, 24) := ⟨⟨by decide +kernel, by decide +kernel⟩, List.mem_of_getElem? (i := 845) (by decide +kernel), List.mem_of_getElem? (i := 949) (by decide +kernel), List.mem_of_getElem? (i := 950) (by decide +kernel)⟩
theorem lw_p24 : lw_okq (⟨"SoldDaysModel", "of", "(II)I"⟩, 24) := ⟨⟨by decide +kernel, by decide +kernel⟩, List.mem_of_getElem? (i := 845) (by decide +kernel), List.mem_of_getElem? (i := 953) (by decide +kernel), List.mem_of_getElem? (i := 954) (by decide +kernel)⟩
theorem lw_p25 : lw_okq (⟨"SoldDaysModel", "livesOf", "(II)I"⟩, 24) := ⟨⟨by decide +kernel, by decide +kernel⟩, List.mem_of_getElem? (i := 845) (by decide +kernel), List.mem_of_getElem? (i := 957) (by decide +kernel), List.mem_of_getElem? (i := 958) (by decide +kernel)⟩
theorem lw_p26 : lw_okq (⟨"SoldDaysModel", "becomes", "(II)I"⟩, 24) := ⟨⟨by decide +kernel, by decide +kernel⟩, List.mem_of_getElem? (i := 845) (by decide +kernel), List.mem_of_getElem? (i := 965) (by decide +kernel), List.mem_of_getElem? (i := 966) (by decide +kernel)⟩
theorem lw_p27 : lw_okq (⟨"SoldDaysModel", "priceOf", "(II)I"⟩, 24) := ⟨⟨by decide +kernel, by decide +kernel⟩, List.mem_of_getElem? (i := 845) (by decide +kernel), List.mem_of_getElem? (i := 993) (by decide +kernel), List.mem_of_getElem? (i := 994) (by decide +kernel)⟩
theorem lw_p28 : lw_okq (⟨"SoldDaysModel", "gives", "(IIII)I"⟩, 24) := ⟨⟨by decide +kernel, by decide +kernel⟩, List.mem_of_getElem? (i := 845) (by decide +kernel), List.mem_of_getElem? (i := 997) (by decide +kernel), List.mem_of_getElem? (i := 998) (by decide +kernel)⟩
theorem lw_p29 : lw_okq (⟨"SoldDaysModel", "works", "(I)I"⟩, 24) := ⟨⟨by decide +kernel, by decide +kernel⟩, List.mem_of_getElem? (i := 845) (by decide +kernel), List.mem_of_getElem? (i := 1001) (by decide +kernel), List.mem_of_getElem? (i := 1002) (by decide +kernel)⟩
theorem lw_p30 : lw_okq (⟨"SoldDaysModel", "areTwo", "(II)Z"⟩, 24) := ⟨⟨by decide +kernel, by decide +kernel⟩, List.mem_of_getElem? (i := 845) (by decide +kernel), List.mem_of_getElem? (i := 1015) (by decide +kernel), List.mem_of_getElem? (i := 1016) (by decide +kernel)⟩
theorem lw_p31 : lw_okq (⟨"SoldDaysModel", "canSell", "(III)Z"⟩, 24) := ⟨⟨by decide +kernel, by decide +kernel⟩, List.mem_of_getElem? (i := 845) (by decide +kernel), List.mem_of_getElem? (i := 1019) (by decide +kernel), List.mem_of_getElem? (i := 1020) (by decide +kernel)⟩
def lw_privs_2 : List (MethodName × Nat) := [(⟨"SoldDays", "livesAsTold", "(II)Z"⟩, 8), (⟨"SoldDays$Voices", "own", "(III)I"⟩, 5), (⟨"SoldDays$Voices", "sound", "(IIII)I"⟩, 5), (⟨"SoldDays$Voices", "part", "(II)I"⟩, 5), (⟨"SoldDays$Voices", "partAndTrade", "(III)I"⟩, 5), (⟨"SoldDaysModel", "error", "(I)I"⟩, 24), (⟨"SoldDaysModel", "lay", "(III)V"⟩, 24), (⟨"SoldDaysModel", "isPerson", "(I)Z"⟩, 24), (⟨"SoldDaysModel", "of", "(II)I"⟩, 24), (⟨"SoldDaysModel", "livesOf", "(II)I"⟩, 24), (⟨"SoldDaysModel", "becomes", "(II)I"⟩, 24), (⟨"SoldDaysModel", "priceOf", "(II)I"⟩, 24), (⟨"SoldDaysModel", "gives", "(IIII)I"⟩, 24), (⟨"SoldDaysModel", "works", "(I)I"⟩, 24), (⟨"SoldDaysModel", "areTwo", "(II)Z"⟩, 24), (⟨"SoldDaysModel", "canSell", "(III)Z"⟩, 24)]
theorem lw_r2 : ∀ q ∈ lw_privs_2, lw_okq q := List.forall_mem_cons.mpr ⟨lw_p16, List.forall_mem_cons.mpr ⟨lw_p17, List.forall_mem_cons.mpr ⟨lw_p18, List.forall_mem_cons.mpr ⟨lw_p19, List.forall_mem_cons.mpr ⟨lw_p20, List.forall_mem_cons.mpr ⟨lw_p21, List.forall_mem_cons.mpr ⟨lw_p22, List.forall_mem_cons.mpr ⟨lw_p23, List.forall_mem_cons.mpr ⟨lw_p24, List.forall_mem_cons.mpr ⟨lw_p25, List.forall_mem_cons.mpr ⟨lw_p26, List.forall_mem_cons.mpr ⟨lw_p27, List.forall_mem_cons.mpr ⟨lw_p28, List.forall_mem_cons.mpr ⟨lw_p29, List.forall_mem_cons.mpr ⟨lw_p30, List.forall_mem_cons.mpr ⟨lw_p31, fun _ h => absurd h List.not_mem_nil⟩⟩⟩⟩⟩⟩⟩⟩⟩⟩⟩⟩⟩⟩⟩⟩
theorem lw_p32 : lw_okq (⟨"SoldDaysModel", "sells", "(III)I"⟩, 24) := ⟨⟨by decide +kernel, by decide +kernel⟩, List.mem_of_getElem? (i := 845) (by decide +kernel), List.mem_of_getElem? (i := 1023) (by decide +kernel), List.mem_of_getElem? (i := 1024) (by decide +kernel)⟩
theorem lw_p33 : lw_okq (⟨"SoldDaysModel", "thinks", "()V"⟩, 24) := ⟨⟨by decide +kernel, by decide +kernel⟩, List.mem_of_getElem? (i := 845) (by decide +kernel), List.mem_of_getElem? (i := 1032) (by decide +kernel), List.mem_of_getElem? (i := 1033) (by decide +kernel)⟩
theorem lw_p34 : lw_okq (⟨"SoldDaysModel", "putsBack", "()V"⟩, 24) := ⟨⟨by decide +kernel, by decide +kernel⟩, List.mem_of_getElem? (i := 845) (by decide +kernel), List.mem_of_getElem? (i := 1039) (by decide +kernel), List.mem_of_getElem? (i := 1040) (by decide +kernel)⟩
theorem lw_p35 : lw_okq (⟨"SoldDaysModel", "said", "(II)I"⟩, 24) := ⟨⟨by decide +kernel, by decide +kernel⟩, List.mem_of_getElem? (i := 845) (by decide +kernel), List.mem_of_getElem? (i := 1051) (by decide +kernel), List.mem_of_getElem? (i := 1052) (by decide +kernel)⟩
theorem lw_p36 : lw_okq (⟨"SoldDaysModel", "isKept", "(I)Z"⟩, 24) := ⟨⟨by decide +kernel, by decide +kernel⟩, List.mem_of_getElem? (i := 845) (by decide +kernel), List.mem_of_getElem? (i := 1055) (by decide +kernel), List.mem_of_getElem? (i := 1056) (by decide +kernel)⟩
theorem lw_p37 : lw_okq (⟨"SoldDaysModel", "isUp", "(II)Z"⟩, 24) := ⟨⟨by decide +kernel, by decide +kernel⟩, List.mem_of_getElem? (i := 845) (by decide +kernel), List.mem_of_getElem? (i := 1059) (by decide +kernel), List.mem_of_getElem? (i := 1060) (by decide +kernel)⟩
theorem lw_p38 : lw_okq (⟨"SoldDaysModel", "any", "()V"⟩, 24) := ⟨⟨by decide +kernel, by decide +kernel⟩, List.mem_of_getElem? (i := 845) (by decide +kernel), List.mem_of_getElem? (i := 1072) (by decide +kernel), List.mem_of_getElem? (i := 1073) (by decide +kernel)⟩
theorem lw_p39 : lw_okq (⟨"SoldDaysModel", "all", "()V"⟩, 24) := ⟨⟨by decide +kernel, by decide +kernel⟩, List.mem_of_getElem? (i := 845) (by decide +kernel), List.mem_of_getElem? (i := 1076) (by decide +kernel), List.mem_of_getElem? (i := 1077) (by decide +kernel)⟩
theorem lw_p40 : lw_okq (⟨"SoldDaysModel", "compares", "()V"⟩, 24) := ⟨⟨by decide +kernel, by decide +kernel⟩, List.mem_of_getElem? (i := 845) (by decide +kernel), List.mem_of_getElem? (i := 1080) (by decide +kernel), List.mem_of_getElem? (i := 1081) (by decide +kernel)⟩
theorem lw_p41 : lw_okq (⟨"SoldDaysModel", "sum", "()V"⟩, 24) := ⟨⟨by decide +kernel, by decide +kernel⟩, List.mem_of_getElem? (i := 845) (by decide +kernel), List.mem_of_getElem? (i := 1084) (by decide +kernel), List.mem_of_getElem? (i := 1085) (by decide +kernel)⟩
theorem lw_p42 : lw_okq (⟨"SoldDaysModel", "times", "()V"⟩, 24) := ⟨⟨by decide +kernel, by decide +kernel⟩, List.mem_of_getElem? (i := 845) (by decide +kernel), List.mem_of_getElem? (i := 1088) (by decide +kernel), List.mem_of_getElem? (i := 1089) (by decide +kernel)⟩
theorem lw_p43 : lw_okq (⟨"SoldDaysModel", "one", "()V"⟩, 24) := ⟨⟨by decide +kernel, by decide +kernel⟩, List.mem_of_getElem? (i := 845) (by decide +kernel), List.mem_of_getElem? (i := 1092) (by decide +kernel), List.mem_of_getElem? (i := 1093) (by decide +kernel)⟩
theorem lw_p44 : lw_okq (⟨"SoldDaysModel", "look", "()I"⟩, 24) := ⟨⟨by decide +kernel, by decide +kernel⟩, List.mem_of_getElem? (i := 845) (by decide +kernel), List.mem_of_getElem? (i := 1096) (by decide +kernel), List.mem_of_getElem? (i := 1097) (by decide +kernel)⟩
theorem lw_p45 : lw_okq (⟨"SoldDaysModel", "nameOf", "(I)I"⟩, 24) := ⟨⟨by decide +kernel, by decide +kernel⟩, List.mem_of_getElem? (i := 845) (by decide +kernel), List.mem_of_getElem? (i := 1100) (by decide +kernel), List.mem_of_getElem? (i := 1101) (by decide +kernel)⟩
theorem lw_p46 : lw_okq (⟨"SoldDaysModel", "step", "(II)V"⟩, 24) := ⟨⟨by decide +kernel, by decide +kernel⟩, List.mem_of_getElem? (i := 845) (by decide +kernel), List.mem_of_getElem? (i := 1104) (by decide +kernel), List.mem_of_getElem? (i := 1105) (by decide +kernel)⟩
theorem lw_p47 : lw_okq (⟨"SoldDaysModel", "opens", "(I)V"⟩, 24) := ⟨⟨by decide +kernel, by decide +kernel⟩, List.mem_of_getElem? (i := 845) (by decide +kernel), List.mem_of_getElem? (i := 1108) (by decide +kernel), List.mem_of_getElem? (i := 1109) (by decide +kernel)⟩
def lw_privs_3 : List (MethodName × Nat) := [(⟨"SoldDaysModel", "sells", "(III)I"⟩, 24), (⟨"SoldDaysModel", "thinks", "()V"⟩, 24), (⟨"SoldDaysModel", "putsBack", "()V"⟩, 24), (⟨"SoldDaysModel", "said", "(II)I"⟩, 24), (⟨"SoldDaysModel", "isKept", "(I)Z"⟩, 24), (⟨"SoldDaysModel", "isUp", "(II)Z"⟩, 24), (⟨"SoldDaysModel", "any", "()V"⟩, 24), (⟨"SoldDaysModel", "all", "()V"⟩, 24), (⟨"SoldDaysModel", "compares", "()V"⟩, 24), (⟨"SoldDaysModel", "sum", "()V"⟩, 24), (⟨"SoldDaysModel", "times", "()V"⟩, 24), (⟨"SoldDaysModel", "one", "()V"⟩, 24), (⟨"SoldDaysModel", "look", "()I"⟩, 24), (⟨"SoldDaysModel", "nameOf", "(I)I"⟩, 24), (⟨"SoldDaysModel", "step", "(II)V"⟩, 24), (⟨"SoldDaysModel", "opens", "(I)V"⟩, 24)]
theorem lw_r3 : ∀ q ∈ lw_privs_3, lw_okq q := List.forall_mem_cons.mpr ⟨lw_p32, List.forall_mem_cons.mpr ⟨lw_p33, List.forall_mem_cons.mpr ⟨lw_p34, List.forall_mem_cons.mpr ⟨lw_p35, List.forall_mem_cons.mpr ⟨lw_p36, List.forall_mem_cons.mpr ⟨lw_p37, List.forall_mem_cons.mpr ⟨lw_p38, List.forall_mem_cons.mpr ⟨lw_p39, List.forall_mem_cons.mpr ⟨lw_p40, List.forall_mem_cons.mpr ⟨lw_p41, List.forall_mem_cons.mpr ⟨lw_p42, List.forall_mem_cons.mpr ⟨lw_p43, List.forall_mem_cons.mpr ⟨lw_p44, List.forall_mem_cons.mpr ⟨lw_p45, List.forall_mem_cons.mpr ⟨lw_p46, List.forall_mem_cons.mpr ⟨lw_p47, fun _ h => absurd h List.not_mem_nil⟩⟩⟩⟩⟩⟩⟩⟩⟩⟩⟩⟩⟩⟩⟩⟩
theorem lw_p48 : lw_okq (⟨"SoldDaysModel", "number", "()V"⟩, 24) := ⟨⟨by decide +kernel, by decide +kernel⟩, List.mem_of_getElem? (i := 845) (by decide +kernel), List.mem_of_getElem? (i := 1112) (by decide +kernel), List.mem_of_getElem? (i := 1113) (by decide +kernel)⟩
theorem lw_p49 : lw_okq (⟨"SoldDaysModel", "goes", "()I"⟩, 24) := ⟨⟨by decide +kernel, by decide +kernel⟩, List.mem_of_getElem? (i := 845) (by decide +kernel), List.mem_of_getElem? (i := 1128) (by decide +kernel), List.mem_of_getElem? (i := 1129) (by decide +kernel)⟩
theorem lw_p50 : lw_okq (⟨"SoldDaysModel", "manyUp", "(I)I"⟩, 24) := ⟨⟨by decide +kernel, by decide +kernel⟩, List.mem_of_getElem? (i := 845) (by decide +kernel), List.mem_of_getElem? (i := 1132) (by decide +kernel), List.mem_of_getElem? (i := 1133) (by decide +kernel)⟩
theorem lw_p51 : lw_okq (⟨"SoldDaysModel", "lives", "(II)V"⟩, 24) := ⟨⟨by decide +kernel, by decide +kernel⟩, List.mem_of_getElem? (i := 845) (by decide +kernel), List.mem_of_getElem? (i := 1136) (by decide +kernel), List.mem_of_getElem? (i := 1137) (by decide +kernel)⟩
theorem lw_p52 : lw_okq (⟨"SoldDaysModel", "counts", "(I)V"⟩, 24) := ⟨⟨by decide +kernel, by decide +kernel⟩, List.mem_of_getElem? (i := 845) (by decide +kernel), List.mem_of_getElem? (i := 1140) (by decide +kernel), List.mem_of_getElem? (i := 1141) (by decide +kernel)⟩
theorem lw_p53 : lw_okq (⟨"SoldDaysModel", "drawn", "()I"⟩, 24) := ⟨⟨by decide +kernel, by decide +kernel⟩, List.mem_of_getElem? (i := 845) (by decide +kernel), List.mem_of_getElem? (i := 1148) (by decide +kernel), List.mem_of_getElem? (i := 1149) (by decide +kernel)⟩
theorem lw_p54 : lw_okq (⟨"SoldDaysModel", "draw", "()I"⟩, 24) := ⟨⟨by decide +kernel, by decide +kernel⟩, List.mem_of_getElem? (i := 845) (by decide +kernel), List.mem_of_getElem? (i := 1152) (by decide +kernel), List.mem_of_getElem? (i := 1153) (by decide +kernel)⟩
theorem lw_p55 : lw_okq (⟨"SoldDaysModel", "doKeep", "(I)Z"⟩, 24) := ⟨⟨by decide +kernel, by decide +kernel⟩, List.mem_of_getElem? (i := 845) (by decide +kernel), List.mem_of_getElem? (i := 1181) (by decide +kernel), List.mem_of_getElem? (i := 1182) (by decide +kernel)⟩
theorem lw_p56 : lw_okq (⟨"SoldDaysModel", "costing", "(III)I"⟩, 24) := ⟨⟨by decide +kernel, by decide +kernel⟩, List.mem_of_getElem? (i := 845) (by decide +kernel), List.mem_of_getElem? (i := 1189) (by decide +kernel), List.mem_of_getElem? (i := 1190) (by decide +kernel)⟩
theorem lw_p57 : lw_okq (⟨"SoldDaysModel", "takes", "(IIIII)V"⟩, 24) := ⟨⟨by decide +kernel, by decide +kernel⟩, List.mem_of_getElem? (i := 845) (by decide +kernel), List.mem_of_getElem? (i := 1197) (by decide +kernel), List.mem_of_getElem? (i := 1198) (by decide +kernel)⟩
theorem lw_p58 : lw_okq (⟨"SoldDaysModel", "notKept", "()I"⟩, 24) := ⟨⟨by decide +kernel, by decide +kernel⟩, List.mem_of_getElem? (i := 845) (by decide +kernel), List.mem_of_getElem? (i := 1201) (by decide +kernel), List.mem_of_getElem? (i := 1202) (by decide +kernel)⟩
theorem lw_p59 : lw_okq (⟨"SoldDaysModel", "notThere", "(I)I"⟩, 24) := ⟨⟨by decide +kernel, by decide +kernel⟩, List.mem_of_getElem? (i := 845) (by decide +kernel), List.mem_of_getElem? (i := 1213) (by decide +kernel), List.mem_of_getElem? (i := 1214) (by decide +kernel)⟩
theorem lw_p60 : lw_okq (⟨"SoldDaysModel", "yawns", "(II)I"⟩, 24) := ⟨⟨by decide +kernel, by decide +kernel⟩, List.mem_of_getElem? (i := 845) (by decide +kernel), List.mem_of_getElem? (i := 1224) (by decide +kernel), List.mem_of_getElem? (i := 1225) (by decide +kernel)⟩
theorem lw_p61 : lw_okq (⟨"SoldDaysModel", "studentYawns", "(II)I"⟩, 24) := ⟨⟨by decide +kernel, by decide +kernel⟩, List.mem_of_getElem? (i := 845) (by decide +kernel), List.mem_of_getElem? (i := 1228) (by decide +kernel), List.mem_of_getElem? (i := 1229) (by decide +kernel)⟩
theorem lw_p62 : lw_okq (⟨"SoldDaysModel", "begins", "(I)V"⟩, 24) := ⟨⟨by decide +kernel, by decide +kernel⟩, List.mem_of_getElem? (i := 845) (by decide +kernel), List.mem_of_getElem? (i := 1232) (by decide +kernel), List.mem_of_getElem? (i := 1233) (by decide +kernel)⟩
theorem lw_p63 : lw_okq (⟨"SoldDaysModel", "plainYawns", "(II)I"⟩, 24) := ⟨⟨by decide +kernel, by decide +kernel⟩, List.mem_of_getElem? (i := 845) (by decide +kernel), List.mem_of_getElem? (i := 1236) (by decide +kernel), List.mem_of_getElem? (i := 1237) (by decide +kernel)⟩
def lw_privs_4 : List (MethodName × Nat) := [(⟨"SoldDaysModel", "number", "()V"⟩, 24), (⟨"SoldDaysModel", "goes", "()I"⟩, 24), (⟨"SoldDaysModel", "manyUp", "(I)I"⟩, 24), (⟨"SoldDaysModel", "lives", "(II)V"⟩, 24), (⟨"SoldDaysModel", "counts", "(I)V"⟩, 24), (⟨"SoldDaysModel", "drawn", "()I"⟩, 24), (⟨"SoldDaysModel", "draw", "()I"⟩, 24), (⟨"SoldDaysModel", "doKeep", "(I)Z"⟩, 24), (⟨"SoldDaysModel", "costing", "(III)I"⟩, 24), (⟨"SoldDaysModel", "takes", "(IIIII)V"⟩, 24), (⟨"SoldDaysModel", "notKept", "()I"⟩, 24), (⟨"SoldDaysModel", "notThere", "(I)I"⟩, 24), (⟨"SoldDaysModel", "yawns", "(II)I"⟩, 24), (⟨"SoldDaysModel", "studentYawns", "(II)I"⟩, 24), (⟨"SoldDaysModel", "begins", "(I)V"⟩, 24), (⟨"SoldDaysModel", "plainYawns", "(II)I"⟩, 24)]
theorem lw_r4 : ∀ q ∈ lw_privs_4, lw_okq q := List.forall_mem_cons.mpr ⟨lw_p48, List.forall_mem_cons.mpr ⟨lw_p49, List.forall_mem_cons.mpr ⟨lw_p50, List.forall_mem_cons.mpr ⟨lw_p51, List.forall_mem_cons.mpr ⟨lw_p52, List.forall_mem_cons.mpr ⟨lw_p53, List.forall_mem_cons.mpr ⟨lw_p54, List.forall_mem_cons.mpr ⟨lw_p55, List.forall_mem_cons.mpr ⟨lw_p56, List.forall_mem_cons.mpr ⟨lw_p57, List.forall_mem_cons.mpr ⟨lw_p58, List.forall_mem_cons.mpr ⟨lw_p59, List.forall_mem_cons.mpr ⟨lw_p60, List.forall_mem_cons.mpr ⟨lw_p61, List.forall_mem_cons.mpr ⟨lw_p62, List.forall_mem_cons.mpr ⟨lw_p63, fun _ h => absurd h List.not_mem_nil⟩⟩⟩⟩⟩⟩⟩⟩⟩⟩⟩⟩⟩⟩⟩⟩
theorem lw_p64 : lw_okq (⟨"SoldDaysModel", "trades", "(II)I"⟩, 24) := ⟨⟨by decide +kernel, by decide +kernel⟩, List.mem_of_getElem? (i := 845) (by decide +kernel), List.mem_of_getElem? (i := 1240) (by decide +kernel), List.mem_of_getElem? (i := 1241) (by decide +kernel)⟩
theorem lw_p65 : lw_okq (⟨"SoldDaysModel", "widowTrades", "(II)I"⟩, 24) := ⟨⟨by decide +kernel, by decide +kernel⟩, List.mem_of_getElem? (i := 845) (by decide +kernel), List.mem_of_getElem? (i := 1244) (by decide +kernel), List.mem_of_getElem? (i := 1245) (by decide +kernel)⟩
theorem lw_p66 : lw_okq (⟨"SoldDaysModel", "plainTrades", "(II)I"⟩, 24) := ⟨⟨by decide +kernel, by decide +kernel⟩, List.mem_of_getElem? (i := 845) (by decide +kernel), List.mem_of_getElem? (i := 1248) (by decide +kernel), List.mem_of_getElem? (i := 1249) (by decide +kernel)⟩
theorem lw_p67 : lw_okq (⟨"SoldDaysModel", "ages", "(II)I"⟩, 24) := ⟨⟨by decide +kernel, by decide +kernel⟩, List.mem_of_getElem? (i := 845) (by decide +kernel), List.mem_of_getElem? (i := 1252) (by decide +kernel), List.mem_of_getElem? (i := 1253) (by decide +kernel)⟩
theorem lw_p68 : lw_okq (⟨"SoldDaysModel", "plainAges", "(II)I"⟩, 24) := ⟨⟨by decide +kernel, by decide +kernel⟩, List.mem_of_getElem? (i := 845) (by decide +kernel), List.mem_of_getElem? (i := 1256) (by decide +kernel), List.mem_of_getElem? (i := 1257) (by decide +kernel)⟩
theorem lw_p69 : lw_okq (⟨"SoldDaysModel", "parts", "(II)I"⟩, 24) := ⟨⟨by decide +kernel, by decide +kernel⟩, List.mem_of_getElem? (i := 845) (by decide +kernel), List.mem_of_getElem? (i := 1260) (by decide +kernel), List.mem_of_getElem? (i := 1261) (by decide +kernel)⟩
theorem lw_p70 : lw_okq (⟨"SoldDaysModel", "plainParts", "(II)I"⟩, 24) := ⟨⟨by decide +kernel, by decide +kernel⟩, List.mem_of_getElem? (i := 845) (by decide +kernel), List.mem_of_getElem? (i := 1264) (by decide +kernel), List.mem_of_getElem? (i := 1265) (by decide +kernel)⟩
theorem lw_p71 : lw_okq (⟨"SoldDaysModel", "notMoved", "(IIIII)I"⟩, 24) := ⟨⟨by decide +kernel, by decide +kernel⟩, List.mem_of_getElem? (i := 845) (by decide +kernel), List.mem_of_getElem? (i := 1285) (by decide +kernel), List.mem_of_getElem? (i := 1286) (by decide +kernel)⟩
def lw_privs_5 : List (MethodName × Nat) := [(⟨"SoldDaysModel", "trades", "(II)I"⟩, 24), (⟨"SoldDaysModel", "widowTrades", "(II)I"⟩, 24), (⟨"SoldDaysModel", "plainTrades", "(II)I"⟩, 24), (⟨"SoldDaysModel", "ages", "(II)I"⟩, 24), (⟨"SoldDaysModel", "plainAges", "(II)I"⟩, 24), (⟨"SoldDaysModel", "parts", "(II)I"⟩, 24), (⟨"SoldDaysModel", "plainParts", "(II)I"⟩, 24), (⟨"SoldDaysModel", "notMoved", "(IIIII)I"⟩, 24)]
theorem lw_r5 : ∀ q ∈ lw_privs_5, lw_okq q := List.forall_mem_cons.mpr ⟨lw_p64, List.forall_mem_cons.mpr ⟨lw_p65, List.forall_mem_cons.mpr ⟨lw_p66, List.forall_mem_cons.mpr ⟨lw_p67, List.forall_mem_cons.mpr ⟨lw_p68, List.forall_mem_cons.mpr ⟨lw_p69, List.forall_mem_cons.mpr ⟨lw_p70, List.forall_mem_cons.mpr ⟨lw_p71, fun _ h => absurd h List.not_mem_nil⟩⟩⟩⟩⟩⟩⟩⟩
def lw_privs : List (MethodName × Nat) := lw_privs_1 ++ (lw_privs_2 ++ (lw_privs_3 ++ (lw_privs_4 ++ (lw_privs_5))))
def lw_tbl : List Cond := k2_sels lw_privs ++ tables_1
theorem lw_privs_ok : ∀ q ∈ lw_privs, lw_okq q := by
  show ∀ q ∈ lw_privs_1 ++ (lw_privs_2 ++ (lw_privs_3 ++ (lw_privs_4 ++ (lw_privs_5)))), lw_okq q
  exact List.forall_mem_append.mpr ⟨lw_r1, List.forall_mem_append.mpr ⟨lw_r2, List.forall_mem_append.mpr ⟨lw_r3, List.forall_mem_append.mpr ⟨lw_r4, lw_r5⟩⟩⟩⟩

def RX0 : String := "SoldDays$Kinds"
def TX0 : u_T := fun k => match k with
  | _ => ("", "", "", false)
def tyX0 : Nat → FieldType := fun k => match k with
  | _ => .int
abbrev wsX00 : List Cond := u_ws RX0 TX0 0
theorem nmX0 : ∀ a, a < 0 → ∀ b, b < 0 → a ≠ b → (TX0 a).2.1 ≠ (TX0 b).2.1 := by decide +kernel
theorem tyX0_ok : ∀ k, k < 0 → parseFieldDescriptor (TX0 k).2.2.1 = some (tyX0 k) := by decide +kernel
abbrev cX0_isKind : ByteArray := prog_2_method_2_code
def yX0_isKind : MethodName := ⟨RX0, "isKind", "(I)Z"⟩
abbrev cX0_isKindAndNumber : ByteArray := prog_2_method_3_code
def yX0_isKindAndNumber : MethodName := ⟨RX0, "isKindAndNumber", "(I)Z"⟩
abbrev cX0_above : ByteArray := prog_2_method_4_code
def yX0_above : MethodName := ⟨RX0, "above", "(I)I"⟩
abbrev cX0_isUnder : ByteArray := prog_2_method_5_code
def yX0_isUnder : MethodName := ⟨RX0, "isUnder", "(II)Z"⟩
abbrev cX0_speaker : ByteArray := prog_2_method_6_code
def yX0_speaker : MethodName := ⟨RX0, "speaker", "(II)I"⟩
abbrev cX0_bodyOf : ByteArray := prog_2_method_7_code
def yX0_bodyOf : MethodName := ⟨RX0, "bodyOf", "(II)I"⟩
abbrev cX0_lives : ByteArray := prog_2_method_8_code
def yX0_lives : MethodName := ⟨RX0, "lives", "(IIII)I"⟩
def RX1 : String := "SoldDays$People"
def TX1 : u_T := fun k => match k with
  | 0 => ("SoldDays$People", "kinds", "[I", true)
  | 1 => ("SoldDays$People", "numbers", "[I", true)
  | 2 => ("SoldDays$People", "ages", "[I", true)
  | 3 => ("SoldDays$People", "moneys", "[I", true)
  | 4 => ("SoldDays$People", "times", "[I", true)
  | _ => ("SoldDays$People", "size", "I", false)
def tyX1 : Nat → FieldType := fun k => match k with
  | 0 => .array .int
  | 1 => .array .int
  | 2 => .array .int
  | 3 => .array .int
  | 4 => .array .int
  | _ => .int
abbrev wsX10 : List Cond := u_ws RX1 TX1 6
theorem nmX1 : ∀ a, a < 6 → ∀ b, b < 6 → a ≠ b → (TX1 a).2.1 ≠ (TX1 b).2.1 := by decide +kernel
theorem tyX1_ok : ∀ k, k < 6 → parseFieldDescriptor (TX1 k).2.2.1 = some (tyX1 k) := by decide +kernel
abbrev cX1_init : ByteArray := prog_3_method_1_code
def yX1_init : MethodName := ⟨RX1, "<init>", "()V"⟩
abbrev cX1_knows : ByteArray := prog_3_method_2_code
def yX1_knows : MethodName := ⟨RX1, "knows", "(I)Z"⟩
abbrev cX1_areTwo : ByteArray := prog_3_method_3_code
def yX1_areTwo : MethodName := ⟨RX1, "areTwo", "(II)Z"⟩
abbrev cX1_join : ByteArray := prog_3_method_4_code
def yX1_join : MethodName := ⟨RX1, "join", "(I)I"⟩
abbrev cX1_setKind : ByteArray := prog_3_method_5_code
def yX1_setKind : MethodName := ⟨RX1, "setKind", "(II)V"⟩
abbrev cX1_timesOf : ByteArray := prog_3_method_6_code
def yX1_timesOf : MethodName := ⟨RX1, "timesOf", "(II)I"⟩
abbrev cX1_setTimes : ByteArray := prog_3_method_7_code
def yX1_setTimes : MethodName := ⟨RX1, "setTimes", "(III)V"⟩
abbrev cX1_livesOf : ByteArray := prog_3_method_8_code
def yX1_livesOf : MethodName := ⟨RX1, "livesOf", "(II)I"⟩
abbrev cX1_isUpIfHad : ByteArray := prog_3_method_9_code
def yX1_isUpIfHad : MethodName := ⟨RX1, "isUpIfHad", "(III)Z"⟩
abbrev cX1_isUp : ByteArray := prog_3_method_10_code
def yX1_isUp : MethodName := ⟨RX1, "isUp", "(II)Z"⟩
abbrev cX1_howManyUp : ByteArray := prog_3_method_11_code
def yX1_howManyUp : MethodName := ⟨RX1, "howManyUp", "(I)I"⟩
abbrev cX1_upDays : ByteArray := prog_3_method_12_code
def yX1_upDays : MethodName := ⟨RX1, "upDays", "(I)I"⟩
abbrev cX1_howManyDays : ByteArray := prog_3_method_13_code
def yX1_howManyDays : MethodName := ⟨RX1, "howManyDays", "(I)I"⟩
abbrev cX1_copyFrom : ByteArray := prog_3_method_14_code
def yX1_copyFrom : MethodName := ⟨RX1, "copyFrom", "(LSoldDays$People;)V"⟩
def RX2 : String := "SoldDays$Promises"
def TX2 : u_T := fun k => match k with
  | 0 => ("SoldDays$Promises", "givers", "[I", true)
  | 1 => ("SoldDays$Promises", "takers", "[I", true)
  | 2 => ("SoldDays$Promises", "dates", "[I", true)
  | _ => ("SoldDays$Promises", "size", "I", false)
def tyX2 : Nat → FieldType := fun k => match k with
  | 0 => .array .int
  | 1 => .array .int
  | 2 => .array .int
  | _ => .int
abbrev wsX20 : List Cond := u_ws RX2 TX2 4
theorem nmX2 : ∀ a, a < 4 → ∀ b, b < 4 → a ≠ b → (TX2 a).2.1 ≠ (TX2 b).2.1 := by decide +kernel
theorem tyX2_ok : ∀ k, k < 4 → parseFieldDescriptor (TX2 k).2.2.1 = some (tyX2 k) := by decide +kernel
abbrev cX2_init : ByteArray := prog_4_method_1_code
def yX2_init : MethodName := ⟨RX2, "<init>", "()V"⟩
abbrev cX2_join : ByteArray := prog_4_method_2_code
def yX2_join : MethodName := ⟨RX2, "join", "(III)I"⟩
abbrev cX2_isOf : ByteArray := prog_4_method_3_code
def yX2_isOf : MethodName := ⟨RX2, "isOf", "(II)Z"⟩
abbrev cX2_isKept : ByteArray := prog_4_method_4_code
def yX2_isKept : MethodName := ⟨RX2, "isKept", "(ILSoldDays$People;)Z"⟩
abbrev cX2_howManyUnkept : ByteArray := prog_4_method_5_code
def yX2_howManyUnkept : MethodName := ⟨RX2, "howManyUnkept", "(LSoldDays$People;)I"⟩
abbrev cX2_copyFrom : ByteArray := prog_4_method_6_code
def yX2_copyFrom : MethodName := ⟨RX2, "copyFrom", "(LSoldDays$Promises;)V"⟩
def RX3 : String := "SoldDays$Reader"
def TX3 : u_T := fun k => match k with
  | 0 => ("SoldDays$Reader", "steps", "LSoldDays$Row;", true)
  | 1 => ("SoldDays$Reader", "tape", "LSoldDays$Row;", true)
  | 2 => ("SoldDays$Reader", "use", "I", false)
  | 3 => ("SoldDays$Reader", "place", "I", false)
  | _ => ("SoldDays$Reader", "fault", "I", false)
def tyX3 : Nat → FieldType := fun k => match k with
  | 0 => .object "SoldDays$Row"
  | 1 => .object "SoldDays$Row"
  | 2 => .int
  | 3 => .int
  | _ => .int
abbrev wsX30 : List Cond := u_ws RX3 TX3 5
theorem nmX3 : ∀ a, a < 5 → ∀ b, b < 5 → a ≠ b → (TX3 a).2.1 ≠ (TX3 b).2.1 := by decide +kernel
theorem tyX3_ok : ∀ k, k < 5 → parseFieldDescriptor (TX3 k).2.2.1 = some (tyX3 k) := by decide +kernel
abbrev cX3_init : ByteArray := prog_5_method_1_code
def yX3_init : MethodName := ⟨RX3, "<init>", "()V"⟩
abbrev cX3_faultOf : ByteArray := prog_5_method_2_code
def yX3_faultOf : MethodName := ⟨RX3, "faultOf", "(LSoldDays$Row;I)I"⟩
abbrev cX3_readLevel : ByteArray := prog_5_method_3_code
def yX3_readLevel : MethodName := ⟨RX3, "readLevel", "(II)V"⟩
abbrev cX3_readQ : ByteArray := prog_5_method_4_code
def yX3_readQ : MethodName := ⟨RX3, "readQ", "(I)V"⟩
abbrev cX3_readNumber : ByteArray := prog_5_method_5_code
def yX3_readNumber : MethodName := ⟨RX3, "readNumber", "()V"⟩
abbrev cX3_readClosing : ByteArray := prog_5_method_6_code
def yX3_readClosing : MethodName := ⟨RX3, "readClosing", "()V"⟩
abbrev cX3_stopHere : ByteArray := prog_5_method_7_code
def yX3_stopHere : MethodName := ⟨RX3, "stopHere", "()V"⟩
abbrev cX3_here : ByteArray := prog_5_method_8_code
def yX3_here : MethodName := ⟨RX3, "here", "()I"⟩
abbrev cX3_nameHere : ByteArray := prog_5_method_9_code
def yX3_nameHere : MethodName := ⟨RX3, "nameHere", "()I"⟩
abbrev cX3_isDigit : ByteArray := prog_5_method_10_code
def yX3_isDigit : MethodName := ⟨RX3, "isDigit", "(I)Z"⟩
abbrev cX3_isSignOf : ByteArray := prog_5_method_11_code
def yX3_isSignOf : MethodName := ⟨RX3, "isSignOf", "(II)Z"⟩
def RX4 : String := "SoldDays$Row"
def TX4 : u_T := fun k => match k with
  | 0 => ("SoldDays$Row", "at", "[I", true)
  | _ => ("SoldDays$Row", "size", "I", false)
def tyX4 : Nat → FieldType := fun k => match k with
  | 0 => .array .int
  | _ => .int
abbrev wsX40 : List Cond := u_ws RX4 TX4 2
theorem nmX4 : ∀ a, a < 2 → ∀ b, b < 2 → a ≠ b → (TX4 a).2.1 ≠ (TX4 b).2.1 := by decide +kernel
theorem tyX4_ok : ∀ k, k < 2 → parseFieldDescriptor (TX4 k).2.2.1 = some (tyX4 k) := by decide +kernel
abbrev cX4_init : ByteArray := prog_6_method_1_code
def yX4_init : MethodName := ⟨RX4, "<init>", "(I)V"⟩
abbrev cX4_add : ByteArray := prog_6_method_2_code
def yX4_add : MethodName := ⟨RX4, "add", "(I)V"⟩
abbrev cX4_copyFrom : ByteArray := prog_6_method_3_code
def yX4_copyFrom : MethodName := ⟨RX4, "copyFrom", "(LSoldDays$Row;)V"⟩
def RX5 : String := "SoldDays$Sheets"
def TX5 : u_T := fun k => match k with
  | 0 => ("SoldDays$Sheets", "bits", "[I", true)
  | 1 => ("SoldDays$Sheets", "sizes", "[I", true)
  | _ => ("SoldDays$Sheets", "numbers", "[I", true)
def tyX5 : Nat → FieldType := fun k => match k with
  | 0 => .array .int
  | 1 => .array .int
  | _ => .array .int
abbrev wsX50 : List Cond := u_ws RX5 TX5 3
theorem nmX5 : ∀ a, a < 3 → ∀ b, b < 3 → a ≠ b → (TX5 a).2.1 ≠ (TX5 b).2.1 := by decide +kernel
theorem tyX5_ok : ∀ k, k < 3 → parseFieldDescriptor (TX5 k).2.2.1 = some (tyX5 k) := by decide +kernel
abbrev cX5_init : ByteArray := prog_7_method_1_code
def yX5_init : MethodName := ⟨RX5, "<init>", "()V"⟩
abbrev cX5_isSheet : ByteArray := prog_7_method_2_code
def yX5_isSheet : MethodName := ⟨RX5, "isSheet", "(I)Z"⟩
abbrev cX5_isMissing : ByteArray := prog_7_method_3_code
def yX5_isMissing : MethodName := ⟨RX5, "isMissing", "(I)Z"⟩
abbrev cX5_renew : ByteArray := prog_7_method_4_code
def yX5_renew : MethodName := ⟨RX5, "renew", "(III)V"⟩
abbrev cX5_numberAt : ByteArray := prog_7_method_5_code
def yX5_numberAt : MethodName := ⟨RX5, "numberAt", "(II)I"⟩
abbrev cX5_setNumber : ByteArray := prog_7_method_6_code
def yX5_setNumber : MethodName := ⟨RX5, "setNumber", "(III)V"⟩
abbrev cX5_stand : ByteArray := prog_7_method_7_code
def yX5_stand : MethodName := ⟨RX5, "stand", "(III)Z"⟩
abbrev cX5_copyNumbers : ByteArray := prog_7_method_8_code
def yX5_copyNumbers : MethodName := ⟨RX5, "copyNumbers", "(IIIII)V"⟩
def RX6 : String := "SoldDays$Text"
def TX6 : u_T := fun k => match k with
  | 0 => ("SoldDays$Text", "steps", "LSoldDays$Row;", true)
  | _ => ("SoldDays$Text", "stack", "[I", true)
def tyX6 : Nat → FieldType := fun k => match k with
  | 0 => .object "SoldDays$Row"
  | _ => .array .int
abbrev wsX60 : List Cond := u_ws RX6 TX6 2
theorem nmX6 : ∀ a, a < 2 → ∀ b, b < 2 → a ≠ b → (TX6 a).2.1 ≠ (TX6 b).2.1 := by decide +kernel
theorem tyX6_ok : ∀ k, k < 2 → parseFieldDescriptor (TX6 k).2.2.1 = some (tyX6 k) := by decide +kernel
abbrev cX6_init : ByteArray := prog_8_method_1_code
def yX6_init : MethodName := ⟨RX6, "<init>", "()V"⟩
abbrev cX6_isThere : ByteArray := prog_8_method_2_code
def yX6_isThere : MethodName := ⟨RX6, "isThere", "()Z"⟩
abbrev cX6_gives : ByteArray := prog_8_method_3_code
def yX6_gives : MethodName := ⟨RX6, "gives", "(III)I"⟩
abbrev cX6_operand : ByteArray := prog_8_method_4_code
def yX6_operand : MethodName := ⟨RX6, "operand", "(IIII)I"⟩
abbrev cX6_joined : ByteArray := prog_8_method_5_code
def yX6_joined : MethodName := ⟨RX6, "joined", "(III)I"⟩
def RX7 : String := "SoldDays$Thoughts"
def TX7 : u_T := fun k => match k with
  | 0 => ("SoldDays$Thoughts", "upDays", "[I", true)
  | 1 => ("SoldDays$Thoughts", "prices", "[I", true)
  | _ => ("SoldDays$Thoughts", "harms", "[I", true)
def tyX7 : Nat → FieldType := fun k => match k with
  | 0 => .array .int
  | 1 => .array .int
  | _ => .array .int
abbrev wsX70 : List Cond := u_ws RX7 TX7 3
theorem nmX7 : ∀ a, a < 3 → ∀ b, b < 3 → a ≠ b → (TX7 a).2.1 ≠ (TX7 b).2.1 := by decide +kernel
theorem tyX7_ok : ∀ k, k < 3 → parseFieldDescriptor (TX7 k).2.2.1 = some (tyX7 k) := by decide +kernel
abbrev cX7_init : ByteArray := prog_9_method_1_code
def yX7_init : MethodName := ⟨RX7, "<init>", "()V"⟩
abbrev cX7_fewestKeepers : ByteArray := prog_9_method_2_code
def yX7_fewestKeepers : MethodName := ⟨RX7, "fewestKeepers", "(LSoldDays$People;)I"⟩
abbrev cX7_daysKeptBy : ByteArray := prog_9_method_3_code
def yX7_daysKeptBy : MethodName := ⟨RX7, "daysKeptBy", "(I)I"⟩
abbrev cX7_howManyBought : ByteArray := prog_9_method_4_code
def yX7_howManyBought : MethodName := ⟨RX7, "howManyBought", "(LSoldDays$World;II)I"⟩
abbrev cX7_takenByBailiffs : ByteArray := prog_9_method_5_code
def yX7_takenByBailiffs : MethodName := ⟨RX7, "takenByBailiffs", "(LSoldDays$World;II)I"⟩
abbrev cX7_harmOf : ByteArray := prog_9_method_6_code
def yX7_harmOf : MethodName := ⟨RX7, "harmOf", "(LSoldDays$World;II)I"⟩
abbrev cX7_leastOf : ByteArray := prog_9_method_7_code
def yX7_leastOf : MethodName := ⟨RX7, "leastOf", "(I)I"⟩
abbrev cX7_isLess : ByteArray := prog_9_method_8_code
def yX7_isLess : MethodName := ⟨RX7, "isLess", "(II)Z"⟩
abbrev cX7_pricesOf : ByteArray := prog_9_method_9_code
def yX7_pricesOf : MethodName := ⟨RX7, "pricesOf", "(I)I"⟩
abbrev cX7_harmsOf : ByteArray := prog_9_method_10_code
def yX7_harmsOf : MethodName := ⟨RX7, "harmsOf", "(I)I"⟩
abbrev cX7_sumOver : ByteArray := prog_9_method_11_code
def yX7_sumOver : MethodName := ⟨RX7, "sumOver", "(I[I)I"⟩
abbrev cX7_memberOf : ByteArray := prog_9_method_12_code
def yX7_memberOf : MethodName := ⟨RX7, "memberOf", "(II)I"⟩
abbrev cX7_commonDivisor : ByteArray := prog_9_method_13_code
def yX7_commonDivisor : MethodName := ⟨RX7, "commonDivisor", "(I)I"⟩
def RX8 : String := "SoldDays$Voices"
def TX8 : u_T := fun k => match k with
  | 0 => ("SoldDays$Voices", "trace", "LSoldDays$Row;", true)
  | 1 => ("SoldDays$Voices", "parted", "Z", false)
  | 2 => ("SoldDays$Voices", "kind", "I", false)
  | 3 => ("SoldDays$Voices", "k", "I", false)
  | _ => ("SoldDays$Voices", "m", "I", false)
def tyX8 : Nat → FieldType := fun k => match k with
  | 0 => .object "SoldDays$Row"
  | 1 => .boolean
  | 2 => .int
  | 3 => .int
  | _ => .int
abbrev wsX80 : List Cond := u_ws RX8 TX8 5
theorem nmX8 : ∀ a, a < 5 → ∀ b, b < 5 → a ≠ b → (TX8 a).2.1 ≠ (TX8 b).2.1 := by decide +kernel
theorem tyX8_ok : ∀ k, k < 5 → parseFieldDescriptor (TX8 k).2.2.1 = some (tyX8 k) := by decide +kernel
abbrev cX8_init : ByteArray := prog_10_method_1_code
def yX8_init : MethodName := ⟨RX8, "<init>", "()V"⟩
abbrev cX8_speak : ByteArray := prog_10_method_2_code
def yX8_speak : MethodName := ⟨RX8, "speak", "(ILSoldDays$People;II)I"⟩
abbrev cX8_own : ByteArray := prog_10_method_3_code
def yX8_own : MethodName := ⟨RX8, "own", "(III)I"⟩
abbrev cX8_sound : ByteArray := prog_10_method_4_code
def yX8_sound : MethodName := ⟨RX8, "sound", "(IIII)I"⟩
abbrev cX8_partAndTrade : ByteArray := prog_10_method_5_code
def yX8_partAndTrade : MethodName := ⟨RX8, "partAndTrade", "(III)I"⟩
abbrev cX8_part : ByteArray := prog_10_method_6_code
def yX8_part : MethodName := ⟨RX8, "part", "(II)I"⟩
def RX9 : String := "SoldDays$World"
def TX9 : u_T := fun k => match k with
  | 0 => ("SoldDays$World", "people", "LSoldDays$People;", true)
  | 1 => ("SoldDays$World", "promises", "LSoldDays$Promises;", true)
  | 2 => ("SoldDays$World", "priceText", "LSoldDays$Text;", true)
  | 3 => ("SoldDays$World", "duesText", "LSoldDays$Text;", true)
  | 4 => ("SoldDays$World", "tape", "LSoldDays$Row;", true)
  | 5 => ("SoldDays$World", "waiting", "LSoldDays$Row;", true)
  | 6 => ("SoldDays$World", "today", "I", false)
  | 7 => ("SoldDays$World", "meetings", "I", false)
  | 8 => ("SoldDays$World", "kept", "I", false)
  | 9 => ("SoldDays$World", "broken", "I", false)
  | 10 => ("SoldDays$World", "lonely", "I", false)
  | _ => ("SoldDays$World", "z", "I", false)
def tyX9 : Nat → FieldType := fun k => match k with
  | 0 => .object "SoldDays$People"
  | 1 => .object "SoldDays$Promises"
  | 2 => .object "SoldDays$Text"
  | 3 => .object "SoldDays$Text"
  | 4 => .object "SoldDays$Row"
  | 5 => .object "SoldDays$Row"
  | 6 => .int
  | 7 => .int
  | 8 => .int
  | 9 => .int
  | 10 => .int
  | _ => .int
abbrev wsX90 : List Cond := u_ws RX9 TX9 12
theorem nmX9 : ∀ a, a < 12 → ∀ b, b < 12 → a ≠ b → (TX9 a).2.1 ≠ (TX9 b).2.1 := by decide +kernel
theorem tyX9_ok : ∀ k, k < 12 → parseFieldDescriptor (TX9 k).2.2.1 = some (tyX9 k) := by decide +kernel
abbrev cX9_init : ByteArray := prog_11_method_1_code
def yX9_init : MethodName := ⟨RX9, "<init>", "()V"⟩
abbrev cX9_dayIn : ByteArray := prog_11_method_2_code
def yX9_dayIn : MethodName := ⟨RX9, "dayIn", "(I)I"⟩
abbrev cX9_textOf : ByteArray := prog_11_method_3_code
def yX9_textOf : MethodName := ⟨RX9, "textOf", "(I)LSoldDays$Text;"⟩
abbrev cX9_useGives : ByteArray := prog_11_method_4_code
def yX9_useGives : MethodName := ⟨RX9, "useGives", "(IIII)I"⟩
abbrev cX9_held : ByteArray := prog_11_method_5_code
def yX9_held : MethodName := ⟨RX9, "held", "(II)I"⟩
abbrev cX9_priceOf : ByteArray := prog_11_method_6_code
def yX9_priceOf : MethodName := ⟨RX9, "priceOf", "(II)I"⟩
abbrev cX9_saleCanBe : ByteArray := prog_11_method_7_code
def yX9_saleCanBe : MethodName := ⟨RX9, "saleCanBe", "(III)Z"⟩
abbrev cX9_dayCanPass : ByteArray := prog_11_method_8_code
def yX9_dayCanPass : MethodName := ⟨RX9, "dayCanPass", "(III)Z"⟩
abbrev cX9_canPay : ByteArray := prog_11_method_9_code
def yX9_canPay : MethodName := ⟨RX9, "canPay", "(III)Z"⟩
abbrev cX9_weekCanBe : ByteArray := prog_11_method_10_code
def yX9_weekCanBe : MethodName := ⟨RX9, "weekCanBe", "(III)Z"⟩
abbrev cX9_makeSale : ByteArray := prog_11_method_11_code
def yX9_makeSale : MethodName := ⟨RX9, "makeSale", "(III)I"⟩
abbrev cX9_saleByDraws : ByteArray := prog_11_method_12_code
def yX9_saleByDraws : MethodName := ⟨RX9, "saleByDraws", "()I"⟩
abbrev cX9_draw : ByteArray := prog_11_method_13_code
def yX9_draw : MethodName := ⟨RX9, "draw", "()I"⟩
abbrev cX9_letDayGo : ByteArray := prog_11_method_14_code
def yX9_letDayGo : MethodName := ⟨RX9, "letDayGo", "()I"⟩
abbrev cX9_letOneLive : ByteArray := prog_11_method_15_code
def yX9_letOneLive : MethodName := ⟨RX9, "letOneLive", "(III)V"⟩
abbrev cX9_settlePromises : ByteArray := prog_11_method_16_code
def yX9_settlePromises : MethodName := ⟨RX9, "settlePromises", "(I)V"⟩
abbrev cX9_older : ByteArray := prog_11_method_17_code
def yX9_older : MethodName := ⟨RX9, "older", "(II)I"⟩
abbrev cX9_poorer : ByteArray := prog_11_method_18_code
def yX9_poorer : MethodName := ⟨RX9, "poorer", "(II)I"⟩
abbrev cX9_oneMore : ByteArray := prog_11_method_19_code
def yX9_oneMore : MethodName := ⟨RX9, "oneMore", "(I)I"⟩
abbrev cX9_copyFrom : ByteArray := prog_11_method_20_code
def yX9_copyFrom : MethodName := ⟨RX9, "copyFrom", "(LSoldDays$World;)V"⟩
def RX10 : String := "SoldDays"
def TX10 : u_T := fun k => match k with
  | 0 => ("SoldDays", "now", "LSoldDays$World;", true)
  | 1 => ("SoldDays", "image", "LSoldDays$World;", true)
  | 2 => ("SoldDays", "reader", "LSoldDays$Reader;", true)
  | 3 => ("SoldDays", "thoughts", "LSoldDays$Thoughts;", true)
  | 4 => ("SoldDays", "voices", "LSoldDays$Voices;", true)
  | 5 => ("SoldDays", "sheets", "LSoldDays$Sheets;", true)
  | 6 => ("SoldDays", "errors", "[I", true)
  | _ => ("SoldDays", "images", "I", false)
def tyX10 : Nat → FieldType := fun k => match k with
  | 0 => .object "SoldDays$World"
  | 1 => .object "SoldDays$World"
  | 2 => .object "SoldDays$Reader"
  | 3 => .object "SoldDays$Thoughts"
  | 4 => .object "SoldDays$Voices"
  | 5 => .object "SoldDays$Sheets"
  | 6 => .array .int
  | _ => .int
abbrev wsX100 : List Cond := u_ws RX10 TX10 8
theorem nmX10 : ∀ a, a < 8 → ∀ b, b < 8 → a ≠ b → (TX10 a).2.1 ≠ (TX10 b).2.1 := by decide +kernel
theorem tyX10_ok : ∀ k, k < 8 → parseFieldDescriptor (TX10 k).2.2.1 = some (tyX10 k) := by decide +kernel
abbrev cX10_init : ByteArray := prog_1_method_1_code
def yX10_init : MethodName := ⟨RX10, "<init>", "()V"⟩
abbrev cX10_error : ByteArray := prog_1_method_2_code
def yX10_error : MethodName := ⟨RX10, "error", "(I)I"⟩
abbrev cX10_isDay : ByteArray := prog_1_method_3_code
def yX10_isDay : MethodName := ⟨RX10, "isDay", "(I)Z"⟩
abbrev cX10_isUse : ByteArray := prog_1_method_4_code
def yX10_isUse : MethodName := ⟨RX10, "isUse", "(I)Z"⟩
abbrev cX10_isWithin : ByteArray := prog_1_method_5_code
def yX10_isWithin : MethodName := ⟨RX10, "isWithin", "(III)Z"⟩
abbrev cX10_person : ByteArray := prog_1_method_6_code
def yX10_person : MethodName := ⟨RX10, "person", "(I)I"⟩
abbrev cX10_personIs : ByteArray := prog_1_method_7_code
def yX10_personIs : MethodName := ⟨RX10, "personIs", "(II)I"⟩
abbrev cX10_become : ByteArray := prog_1_method_8_code
def yX10_become : MethodName := ⟨RX10, "become", "(II)I"⟩
abbrev cX10_as : ByteArray := prog_1_method_9_code
def yX10_as : MethodName := ⟨RX10, "as", "(II)I"⟩
abbrev cX10_change : ByteArray := prog_1_method_10_code
def yX10_change : MethodName := ⟨RX10, "change", "(III)I"⟩
abbrev cX10_has : ByteArray := prog_1_method_11_code
def yX10_has : MethodName := ⟨RX10, "has", "(II)I"⟩
abbrev cX10_give : ByteArray := prog_1_method_12_code
def yX10_give : MethodName := ⟨RX10, "give", "(III)I"⟩
abbrev cX10_price : ByteArray := prog_1_method_13_code
def yX10_price : MethodName := ⟨RX10, "price", "(II)I"⟩
abbrev cX10_sell : ByteArray := prog_1_method_14_code
def yX10_sell : MethodName := ⟨RX10, "sell", "(III)I"⟩
abbrev cX10_sellWeek : ByteArray := prog_1_method_15_code
def yX10_sellWeek : MethodName := ⟨RX10, "sellWeek", "(III)I"⟩
abbrev cX10_promise : ByteArray := prog_1_method_16_code
def yX10_promise : MethodName := ⟨RX10, "promise", "(III)I"⟩
abbrev cX10_promiseIs : ByteArray := prog_1_method_17_code
def yX10_promiseIs : MethodName := ⟨RX10, "promiseIs", "(II)I"⟩
abbrev cX10_feed : ByteArray := prog_1_method_18_code
def yX10_feed : MethodName := ⟨RX10, "feed", "(JI)I"⟩
abbrev cX10_text : ByteArray := prog_1_method_19_code
def yX10_text : MethodName := ⟨RX10, "text", "(I)I"⟩
abbrev cX10_untell : ByteArray := prog_1_method_20_code
def yX10_untell : MethodName := ⟨RX10, "untell", "(I)I"⟩
abbrev cX10_law : ByteArray := prog_1_method_21_code
def yX10_law : MethodName := ⟨RX10, "law", "(IIII)I"⟩
abbrev cX10_days : ByteArray := prog_1_method_22_code
def yX10_days : MethodName := ⟨RX10, "days", "(I)I"⟩
abbrev cX10_loose : ByteArray := prog_1_method_23_code
def yX10_loose : MethodName := ⟨RX10, "loose", "(I)I"⟩
abbrev cX10_seed : ByteArray := prog_1_method_24_code
def yX10_seed : MethodName := ⟨RX10, "seed", "(I)I"⟩
abbrev cX10_then : ByteArray := prog_1_method_25_code
def yX10_then : MethodName := ⟨RX10, "then", "(III)I"⟩
abbrev cX10_alone : ByteArray := prog_1_method_26_code
def yX10_alone : MethodName := ⟨RX10, "alone", "(I)I"⟩
abbrev cX10_meet : ByteArray := prog_1_method_27_code
def yX10_meet : MethodName := ⟨RX10, "meet", "(II)I"⟩
abbrev cX10_keepers : ByteArray := prog_1_method_28_code
def yX10_keepers : MethodName := ⟨RX10, "keepers", "(I)I"⟩
abbrev cX10_buys : ByteArray := prog_1_method_29_code
def yX10_buys : MethodName := ⟨RX10, "buys", "(II)I"⟩
abbrev cX10_bailiffs : ByteArray := prog_1_method_30_code
def yX10_bailiffs : MethodName := ⟨RX10, "bailiffs", "(III)I"⟩
abbrev cX10_odds : ByteArray := prog_1_method_31_code
def yX10_odds : MethodName := ⟨RX10, "odds", "(II)I"⟩
abbrev cX10_fits : ByteArray := prog_1_method_32_code
def yX10_fits : MethodName := ⟨RX10, "fits", "(I)I"⟩
abbrev cX10_livesAsTold : ByteArray := prog_1_method_33_code
def yX10_livesAsTold : MethodName := ⟨RX10, "livesAsTold", "(II)Z"⟩
abbrev cX10_voice : ByteArray := prog_1_method_34_code
def yX10_voice : MethodName := ⟨RX10, "voice", "(III)I"⟩
abbrev cX10_body : ByteArray := prog_1_method_35_code
def yX10_body : MethodName := ⟨RX10, "body", "(I)I"⟩
abbrev cX10_sheet : ByteArray := prog_1_method_36_code
def yX10_sheet : MethodName := ⟨RX10, "sheet", "(III)I"⟩
abbrev cX10_put : ByteArray := prog_1_method_37_code
def yX10_put : MethodName := ⟨RX10, "put", "(III)I"⟩
abbrev cX10_move : ByteArray := prog_1_method_38_code
def yX10_move : MethodName := ⟨RX10, "move", "(IIIII)I"⟩
abbrev cX10_funds : ByteArray := prog_1_method_39_code
def yX10_funds : MethodName := ⟨RX10, "funds", "(I)I"⟩
abbrev cX10_judge : ByteArray := prog_1_method_40_code
def yX10_judge : MethodName := ⟨RX10, "judge", "(I)I"⟩
abbrev cX10_image : ByteArray := prog_1_method_41_code
def yX10_image : MethodName := ⟨RX10, "image", "()I"⟩
abbrev cX10_restore : ByteArray := prog_1_method_42_code
def yX10_restore : MethodName := ⟨RX10, "restore", "()I"⟩
abbrev cX10_tell : ByteArray := prog_1_method_43_code
def yX10_tell : MethodName := ⟨RX10, "tell", "(I)I"⟩
abbrev cX10_check : ByteArray := prog_1_method_44_code
def yX10_check : MethodName := ⟨RX10, "check", "()I"⟩
abbrev cX10_count : ByteArray := prog_1_method_45_code
def yX10_count : MethodName := ⟨RX10, "count", "(I)I"⟩
abbrev cX10_told : ByteArray := prog_1_method_46_code
def yX10_told : MethodName := ⟨RX10, "told", "(I)I"⟩
def RX11 : String := "SoldDaysModel"
def TX11 : u_T := fun k => match k with
  | 0 => ("SoldDaysModel", "row", "[I", true)
  | 1 => ("SoldDaysModel", "kept", "[I", true)
  | 2 => ("SoldDaysModel", "before", "[I", true)
  | 3 => ("SoldDaysModel", "images", "I", false)
  | 4 => ("SoldDaysModel", "errors", "[I", true)
  | 5 => ("SoldDaysModel", "bitsOf", "[I", true)
  | 6 => ("SoldDaysModel", "sizeOf", "[I", true)
  | 7 => ("SoldDaysModel", "cells", "[I", true)
  | 8 => ("SoldDaysModel", "act", "[I", true)
  | 9 => ("SoldDaysModel", "with", "[I", true)
  | 10 => ("SoldDaysModel", "facts", "[I", true)
  | 11 => ("SoldDaysModel", "pile", "[I", true)
  | 12 => ("SoldDaysModel", "laid", "I", false)
  | 13 => ("SoldDaysModel", "here", "I", false)
  | 14 => ("SoldDaysModel", "opened", "I", false)
  | 15 => ("SoldDaysModel", "bad", "Z", false)
  | 16 => ("SoldDaysModel", "using", "I", false)
  | 17 => ("SoldDaysModel", "taken", "[I", true)
  | 18 => ("SoldDaysModel", "bestTaken", "[I", true)
  | 19 => ("SoldDaysModel", "leastBroken", "I", false)
  | 20 => ("SoldDaysModel", "leastPrice", "I", false)
  | 21 => ("SoldDaysModel", "trace", "[I", true)
  | 22 => ("SoldDaysModel", "traced", "I", false)
  | _ => ("SoldDaysModel", "isParted", "Z", false)
def tyX11 : Nat → FieldType := fun k => match k with
  | 0 => .array .int
  | 1 => .array .int
  | 2 => .array .int
  | 3 => .int
  | 4 => .array .int
  | 5 => .array .int
  | 6 => .array .int
  | 7 => .array .int
  | 8 => .array .int
  | 9 => .array .int
  | 10 => .array .int
  | 11 => .array .int
  | 12 => .int
  | 13 => .int
  | 14 => .int
  | 15 => .boolean
  | 16 => .int
  | 17 => .array .int
  | 18 => .array .int
  | 19 => .int
  | 20 => .int
  | 21 => .array .int
  | 22 => .int
  | _ => .boolean
abbrev wsX110 : List Cond := u_ws RX11 TX11 24
theorem nmX11 : ∀ a, a < 24 → ∀ b, b < 24 → a ≠ b → (TX11 a).2.1 ≠ (TX11 b).2.1 := by decide +kernel
theorem tyX11_ok : ∀ k, k < 24 → parseFieldDescriptor (TX11 k).2.2.1 = some (tyX11 k) := by decide +kernel
abbrev cX11_init : ByteArray := prog_13_method_1_code
def yX11_init : MethodName := ⟨RX11, "<init>", "()V"⟩
abbrev cX11_error : ByteArray := prog_13_method_2_code
def yX11_error : MethodName := ⟨RX11, "error", "(I)I"⟩
abbrev cX11_in : ByteArray := prog_13_method_3_code
def yX11_in : MethodName := ⟨RX11, "in", "(III)Z"⟩
abbrev cX11_held : ByteArray := prog_13_method_4_code
def yX11_held : MethodName := ⟨RX11, "held", "(III)I"⟩
abbrev cX11_copyAll : ByteArray := prog_13_method_5_code
def yX11_copyAll : MethodName := ⟨RX11, "copyAll", "([I[I)V"⟩
abbrev cX11_bits : ByteArray := prog_13_method_6_code
def yX11_bits : MethodName := ⟨RX11, "bits", "(I)I"⟩
abbrev cX11_isPerson : ByteArray := prog_13_method_7_code
def yX11_isPerson : MethodName := ⟨RX11, "isPerson", "(I)Z"⟩
abbrev cX11_areTwo : ByteArray := prog_13_method_8_code
def yX11_areTwo : MethodName := ⟨RX11, "areTwo", "(II)Z"⟩
abbrev cX11_isDay : ByteArray := prog_13_method_9_code
def yX11_isDay : MethodName := ⟨RX11, "isDay", "(I)Z"⟩
abbrev cX11_becomes : ByteArray := prog_13_method_10_code
def yX11_becomes : MethodName := ⟨RX11, "becomes", "(II)I"⟩
abbrev cX11_of : ByteArray := prog_13_method_11_code
def yX11_of : MethodName := ⟨RX11, "of", "(II)I"⟩
abbrev cX11_lay : ByteArray := prog_13_method_12_code
def yX11_lay : MethodName := ⟨RX11, "lay", "(III)V"⟩
abbrev cX11_said : ByteArray := prog_13_method_13_code
def yX11_said : MethodName := ⟨RX11, "said", "(II)I"⟩
abbrev cX11_counts : ByteArray := prog_13_method_14_code
def yX11_counts : MethodName := ⟨RX11, "counts", "(I)V"⟩
abbrev cX11_livesOf : ByteArray := prog_13_method_15_code
def yX11_livesOf : MethodName := ⟨RX11, "livesOf", "(II)I"⟩
abbrev cX11_isUp : ByteArray := prog_13_method_16_code
def yX11_isUp : MethodName := ⟨RX11, "isUp", "(II)Z"⟩
abbrev cX11_manyUp : ByteArray := prog_13_method_17_code
def yX11_manyUp : MethodName := ⟨RX11, "manyUp", "(I)I"⟩
abbrev cX11_isKept : ByteArray := prog_13_method_18_code
def yX11_isKept : MethodName := ⟨RX11, "isKept", "(I)Z"⟩
abbrev cX11_notKept : ByteArray := prog_13_method_19_code
def yX11_notKept : MethodName := ⟨RX11, "notKept", "()I"⟩
abbrev cX11_isKm : ByteArray := prog_13_method_20_code
def yX11_isKm : MethodName := ⟨RX11, "isKm", "(I)Z"⟩
abbrev cX11_person : ByteArray := prog_13_method_21_code
def yX11_person : MethodName := ⟨RX11, "person", "(I)I"⟩
abbrev cX11_personIs : ByteArray := prog_13_method_22_code
def yX11_personIs : MethodName := ⟨RX11, "personIs", "(II)I"⟩
abbrev cX11_become : ByteArray := prog_13_method_23_code
def yX11_become : MethodName := ⟨RX11, "become", "(II)I"⟩
abbrev cX11_as : ByteArray := prog_13_method_24_code
def yX11_as : MethodName := ⟨RX11, "as", "(II)I"⟩
abbrev cX11_change : ByteArray := prog_13_method_25_code
def yX11_change : MethodName := ⟨RX11, "change", "(III)I"⟩
abbrev cX11_has : ByteArray := prog_13_method_26_code
def yX11_has : MethodName := ⟨RX11, "has", "(II)I"⟩
abbrev cX11_give : ByteArray := prog_13_method_27_code
def yX11_give : MethodName := ⟨RX11, "give", "(III)I"⟩
abbrev cX11_priceOf : ByteArray := prog_13_method_28_code
def yX11_priceOf : MethodName := ⟨RX11, "priceOf", "(II)I"⟩
abbrev cX11_canSell : ByteArray := prog_13_method_29_code
def yX11_canSell : MethodName := ⟨RX11, "canSell", "(III)Z"⟩
abbrev cX11_sells : ByteArray := prog_13_method_30_code
def yX11_sells : MethodName := ⟨RX11, "sells", "(III)I"⟩
abbrev cX11_price : ByteArray := prog_13_method_31_code
def yX11_price : MethodName := ⟨RX11, "price", "(II)I"⟩
abbrev cX11_sell : ByteArray := prog_13_method_32_code
def yX11_sell : MethodName := ⟨RX11, "sell", "(III)I"⟩
abbrev cX11_sellWeek : ByteArray := prog_13_method_33_code
def yX11_sellWeek : MethodName := ⟨RX11, "sellWeek", "(III)I"⟩
abbrev cX11_promise : ByteArray := prog_13_method_34_code
def yX11_promise : MethodName := ⟨RX11, "promise", "(III)I"⟩
abbrev cX11_promiseIs : ByteArray := prog_13_method_35_code
def yX11_promiseIs : MethodName := ⟨RX11, "promiseIs", "(II)I"⟩
abbrev cX11_feed : ByteArray := prog_13_method_36_code
def yX11_feed : MethodName := ⟨RX11, "feed", "(JI)I"⟩
abbrev cX11_look : ByteArray := prog_13_method_37_code
def yX11_look : MethodName := ⟨RX11, "look", "()I"⟩
abbrev cX11_step : ByteArray := prog_13_method_38_code
def yX11_step : MethodName := ⟨RX11, "step", "(II)V"⟩
abbrev cX11_nameOf : ByteArray := prog_13_method_39_code
def yX11_nameOf : MethodName := ⟨RX11, "nameOf", "(I)I"⟩
abbrev cX11_number : ByteArray := prog_13_method_40_code
def yX11_number : MethodName := ⟨RX11, "number", "()V"⟩
abbrev cX11_opens : ByteArray := prog_13_method_41_code
def yX11_opens : MethodName := ⟨RX11, "opens", "(I)V"⟩
abbrev cX11_one : ByteArray := prog_13_method_42_code
def yX11_one : MethodName := ⟨RX11, "one", "()V"⟩
abbrev cX11_times : ByteArray := prog_13_method_43_code
def yX11_times : MethodName := ⟨RX11, "times", "()V"⟩
abbrev cX11_sum : ByteArray := prog_13_method_44_code
def yX11_sum : MethodName := ⟨RX11, "sum", "()V"⟩
abbrev cX11_compares : ByteArray := prog_13_method_45_code
def yX11_compares : MethodName := ⟨RX11, "compares", "()V"⟩
abbrev cX11_all : ByteArray := prog_13_method_46_code
def yX11_all : MethodName := ⟨RX11, "all", "()V"⟩
abbrev cX11_any : ByteArray := prog_13_method_47_code
def yX11_any : MethodName := ⟨RX11, "any", "()V"⟩
abbrev cX11_text : ByteArray := prog_13_method_48_code
def yX11_text : MethodName := ⟨RX11, "text", "(I)I"⟩
abbrev cX11_untell : ByteArray := prog_13_method_49_code
def yX11_untell : MethodName := ⟨RX11, "untell", "(I)I"⟩
abbrev cX11_twoOf : ByteArray := prog_13_method_50_code
def yX11_twoOf : MethodName := ⟨RX11, "twoOf", "(III)I"⟩
abbrev cX11_works : ByteArray := prog_13_method_51_code
def yX11_works : MethodName := ⟨RX11, "works", "(I)I"⟩
abbrev cX11_gives : ByteArray := prog_13_method_52_code
def yX11_gives : MethodName := ⟨RX11, "gives", "(IIII)I"⟩
abbrev cX11_law : ByteArray := prog_13_method_53_code
def yX11_law : MethodName := ⟨RX11, "law", "(IIII)I"⟩
abbrev cX11_lives : ByteArray := prog_13_method_54_code
def yX11_lives : MethodName := ⟨RX11, "lives", "(II)V"⟩
abbrev cX11_goes : ByteArray := prog_13_method_55_code
def yX11_goes : MethodName := ⟨RX11, "goes", "()I"⟩
abbrev cX11_days : ByteArray := prog_13_method_56_code
def yX11_days : MethodName := ⟨RX11, "days", "(I)I"⟩
abbrev cX11_draw : ByteArray := prog_13_method_57_code
def yX11_draw : MethodName := ⟨RX11, "draw", "()I"⟩
abbrev cX11_drawn : ByteArray := prog_13_method_58_code
def yX11_drawn : MethodName := ⟨RX11, "drawn", "()I"⟩
abbrev cX11_loose : ByteArray := prog_13_method_59_code
def yX11_loose : MethodName := ⟨RX11, "loose", "(I)I"⟩
abbrev cX11_seed : ByteArray := prog_13_method_60_code
def yX11_seed : MethodName := ⟨RX11, "seed", "(I)I"⟩
abbrev cX11_thinks : ByteArray := prog_13_method_61_code
def yX11_thinks : MethodName := ⟨RX11, "thinks", "()V"⟩
abbrev cX11_putsBack : ByteArray := prog_13_method_62_code
def yX11_putsBack : MethodName := ⟨RX11, "putsBack", "()V"⟩
abbrev cX11_then : ByteArray := prog_13_method_63_code
def yX11_then : MethodName := ⟨RX11, "then", "(III)I"⟩
abbrev cX11_alone : ByteArray := prog_13_method_64_code
def yX11_alone : MethodName := ⟨RX11, "alone", "(I)I"⟩
abbrev cX11_meet : ByteArray := prog_13_method_65_code
def yX11_meet : MethodName := ⟨RX11, "meet", "(II)I"⟩
abbrev cX11_doKeep : ByteArray := prog_13_method_66_code
def yX11_doKeep : MethodName := ⟨RX11, "doKeep", "(I)Z"⟩
abbrev cX11_keepers : ByteArray := prog_13_method_67_code
def yX11_keepers : MethodName := ⟨RX11, "keepers", "(I)I"⟩
abbrev cX11_costing : ByteArray := prog_13_method_68_code
def yX11_costing : MethodName := ⟨RX11, "costing", "(III)I"⟩
abbrev cX11_buys : ByteArray := prog_13_method_69_code
def yX11_buys : MethodName := ⟨RX11, "buys", "(II)I"⟩
abbrev cX11_takes : ByteArray := prog_13_method_70_code
def yX11_takes : MethodName := ⟨RX11, "takes", "(IIIII)V"⟩
abbrev cX11_bailiffs : ByteArray := prog_13_method_71_code
def yX11_bailiffs : MethodName := ⟨RX11, "bailiffs", "(III)I"⟩
abbrev cX11_odds : ByteArray := prog_13_method_72_code
def yX11_odds : MethodName := ⟨RX11, "odds", "(II)I"⟩
abbrev cX11_fits : ByteArray := prog_13_method_73_code
def yX11_fits : MethodName := ⟨RX11, "fits", "(I)I"⟩
abbrev cX11_begins : ByteArray := prog_13_method_74_code
def yX11_begins : MethodName := ⟨RX11, "begins", "(I)V"⟩
abbrev cX11_plainYawns : ByteArray := prog_13_method_75_code
def yX11_plainYawns : MethodName := ⟨RX11, "plainYawns", "(II)I"⟩
abbrev cX11_studentYawns : ByteArray := prog_13_method_76_code
def yX11_studentYawns : MethodName := ⟨RX11, "studentYawns", "(II)I"⟩
abbrev cX11_yawns : ByteArray := prog_13_method_77_code
def yX11_yawns : MethodName := ⟨RX11, "yawns", "(II)I"⟩
abbrev cX11_plainTrades : ByteArray := prog_13_method_78_code
def yX11_plainTrades : MethodName := ⟨RX11, "plainTrades", "(II)I"⟩
abbrev cX11_widowTrades : ByteArray := prog_13_method_79_code
def yX11_widowTrades : MethodName := ⟨RX11, "widowTrades", "(II)I"⟩
abbrev cX11_trades : ByteArray := prog_13_method_80_code
def yX11_trades : MethodName := ⟨RX11, "trades", "(II)I"⟩
abbrev cX11_plainAges : ByteArray := prog_13_method_81_code
def yX11_plainAges : MethodName := ⟨RX11, "plainAges", "(II)I"⟩
abbrev cX11_ages : ByteArray := prog_13_method_82_code
def yX11_ages : MethodName := ⟨RX11, "ages", "(II)I"⟩
abbrev cX11_plainParts : ByteArray := prog_13_method_83_code
def yX11_plainParts : MethodName := ⟨RX11, "plainParts", "(II)I"⟩
abbrev cX11_parts : ByteArray := prog_13_method_84_code
def yX11_parts : MethodName := ⟨RX11, "parts", "(II)I"⟩
abbrev cX11_voice : ByteArray := prog_13_method_85_code
def yX11_voice : MethodName := ⟨RX11, "voice", "(III)I"⟩
abbrev cX11_body : ByteArray := prog_13_method_86_code
def yX11_body : MethodName := ⟨RX11, "body", "(I)I"⟩
abbrev cX11_isSheet : ByteArray := prog_13_method_87_code
def yX11_isSheet : MethodName := ⟨RX11, "isSheet", "(I)Z"⟩
abbrev cX11_sheet : ByteArray := prog_13_method_88_code
def yX11_sheet : MethodName := ⟨RX11, "sheet", "(III)I"⟩
abbrev cX11_notThere : ByteArray := prog_13_method_89_code
def yX11_notThere : MethodName := ⟨RX11, "notThere", "(I)I"⟩
abbrev cX11_put : ByteArray := prog_13_method_90_code
def yX11_put : MethodName := ⟨RX11, "put", "(III)I"⟩
abbrev cX11_notMoved : ByteArray := prog_13_method_91_code
def yX11_notMoved : MethodName := ⟨RX11, "notMoved", "(IIIII)I"⟩
abbrev cX11_move : ByteArray := prog_13_method_92_code
def yX11_move : MethodName := ⟨RX11, "move", "(IIIII)I"⟩
abbrev cX11_funds : ByteArray := prog_13_method_93_code
def yX11_funds : MethodName := ⟨RX11, "funds", "(I)I"⟩
abbrev cX11_judge : ByteArray := prog_13_method_94_code
def yX11_judge : MethodName := ⟨RX11, "judge", "(I)I"⟩
abbrev cX11_image : ByteArray := prog_13_method_95_code
def yX11_image : MethodName := ⟨RX11, "image", "()I"⟩
abbrev cX11_restore : ByteArray := prog_13_method_96_code
def yX11_restore : MethodName := ⟨RX11, "restore", "()I"⟩
abbrev cX11_tell : ByteArray := prog_13_method_97_code
def yX11_tell : MethodName := ⟨RX11, "tell", "(I)I"⟩
abbrev cX11_check : ByteArray := prog_13_method_98_code
def yX11_check : MethodName := ⟨RX11, "check", "()I"⟩
abbrev cX11_count : ByteArray := prog_13_method_99_code
def yX11_count : MethodName := ⟨RX11, "count", "(I)I"⟩
abbrev cX11_told : ByteArray := prog_13_method_100_code
def yX11_told : MethodName := ⟨RX11, "told", "(I)I"⟩
def RJ6 : String := "java/lang/Integer"
def TJ6 : u_T := fun k => match k with
  | _ => ("", "", "", false)
def tyJ6 : Nat → FieldType := fun k => match k with
  | _ => .int
abbrev wsJ60 : List Cond := u_ws RJ6 TJ6 0
theorem nmJ6 : ∀ a, a < 0 → ∀ b, b < 0 → a ≠ b → (TJ6 a).2.1 ≠ (TJ6 b).2.1 := by decide +kernel
theorem tyJ6_ok : ∀ k, k < 0 → parseFieldDescriptor (TJ6 k).2.2.1 = some (tyJ6 k) := by decide +kernel
abbrev cJ6_bitCount_0f7a4 : ByteArray := prog_14_method_49_code
def yJ6_bitCount_0f7a4 : MethodName := ⟨RJ6, "bitCount", "(I)I"⟩
def RJ9 : String := "java/lang/Math"
def TJ9 : u_T := fun k => match k with
  | _ => ("", "", "", false)
def tyJ9 : Nat → FieldType := fun k => match k with
  | _ => .int
abbrev wsJ90 : List Cond := u_ws RJ9 TJ9 0
theorem nmJ9 : ∀ a, a < 0 → ∀ b, b < 0 → a ≠ b → (TJ9 a).2.1 ≠ (TJ9 b).2.1 := by decide +kernel
theorem tyJ9_ok : ∀ k, k < 0 → parseFieldDescriptor (TJ9 k).2.2.1 = some (tyJ9 k) := by decide +kernel
abbrev cJ9_max_7cf53 : ByteArray := prog_15_method_65_code
def yJ9_max_7cf53 : MethodName := ⟨RJ9, "max", "(II)I"⟩
abbrev cJ9_min_7cf53 : ByteArray := prog_15_method_69_code
def yJ9_min_7cf53 : MethodName := ⟨RJ9, "min", "(II)I"⟩
def RJ10 : String := "java/lang/System"
def TJ10 : u_T := fun k => match k with
  | _ => ("", "", "", false)
def tyJ10 : Nat → FieldType := fun k => match k with
  | _ => .int
abbrev wsJ100 : List Cond := u_ws RJ10 TJ10 0
theorem nmJ10 : ∀ a, a < 0 → ∀ b, b < 0 → a ≠ b → (TJ10 a).2.1 ≠ (TJ10 b).2.1 := by decide +kernel
theorem tyJ10_ok : ∀ k, k < 0 → parseFieldDescriptor (TJ10 k).2.2.1 = some (tyJ10 k) := by decide +kernel
def RL : String := "SoldDaysLaw"
abbrev cL_law : ByteArray := code
def yL_law : MethodName := ⟨RL, "law", "([I)Z"⟩
abbrev vwCl : List vw_C := [(RX1, TX1, 6), (RX2, TX2, 4), (RX3, TX3, 5), (RX4, TX4, 2), (RX5, TX5, 3), (RX6, TX6, 2), (RX7, TX7, 3), (RX8, TX8, 5), (RX9, TX9, 12), (RX10, TX10, 8), (RX11, TX11, 24)]
/-- a method: its name, its code, its locals, what it answers -/
abbrev KM : Type := MethodName × ByteArray × Nat × Option FieldType
abbrev mX0_isKind : KM := (yX0_isKind, cX0_isKind, 1, (some .boolean))
abbrev mX0_isKindAndNumber : KM := (yX0_isKindAndNumber, cX0_isKindAndNumber, 1, (some .boolean))
abbrev mX0_above : KM := (yX0_above, cX0_above, 1, (some .int))
abbrev mX0_isUnder : KM := (yX0_isUnder, cX0_isUnder, 4, (some .boolean))
abbrev mX0_bodyOf : KM := (yX0_bodyOf, cX0_bodyOf, 2, (some .int))
abbrev mX0_speaker : KM := (yX0_speaker, cX0_speaker, 4, (some .int))
abbrev mX0_lives : KM := (yX0_lives, cX0_lives, 6, (some .int))
abbrev mX1_init : KM := (yX1_init, cX1_init, 1, none)
abbrev mX1_knows : KM := (yX1_knows, cX1_knows, 2, (some .boolean))
abbrev mX1_areTwo : KM := (yX1_areTwo, cX1_areTwo, 3, (some .boolean))
abbrev mX1_setKind : KM := (yX1_setKind, cX1_setKind, 3, none)
abbrev mX1_setTimes : KM := (yX1_setTimes, cX1_setTimes, 4, none)
abbrev mX1_join : KM := (yX1_join, cX1_join, 4, (some .int))
abbrev mX1_timesOf : KM := (yX1_timesOf, cX1_timesOf, 3, (some .int))
abbrev mX1_livesOf : KM := (yX1_livesOf, cX1_livesOf, 3, (some .int))
abbrev mX1_isUpIfHad : KM := (yX1_isUpIfHad, cX1_isUpIfHad, 4, (some .boolean))
abbrev mX1_isUp : KM := (yX1_isUp, cX1_isUp, 3, (some .boolean))
abbrev mX1_howManyUp : KM := (yX1_howManyUp, cX1_howManyUp, 4, (some .int))
abbrev mX1_upDays : KM := (yX1_upDays, cX1_upDays, 4, (some .int))
abbrev mX1_howManyDays : KM := (yX1_howManyDays, cX1_howManyDays, 4, (some .int))
abbrev mX1_copyFrom : KM := (yX1_copyFrom, cX1_copyFrom, 2, none)
abbrev mX2_init : KM := (yX2_init, cX2_init, 1, none)
abbrev mX2_join : KM := (yX2_join, cX2_join, 5, (some .int))
abbrev mX2_isOf : KM := (yX2_isOf, cX2_isOf, 3, (some .boolean))
abbrev mX2_isKept : KM := (yX2_isKept, cX2_isKept, 4, (some .boolean))
abbrev mX2_howManyUnkept : KM := (yX2_howManyUnkept, cX2_howManyUnkept, 4, (some .int))
abbrev mX2_copyFrom : KM := (yX2_copyFrom, cX2_copyFrom, 2, none)
abbrev mX4_init : KM := (yX4_init, cX4_init, 2, none)
abbrev mX3_init : KM := (yX3_init, cX3_init, 1, none)
abbrev mX4_copyFrom : KM := (yX4_copyFrom, cX4_copyFrom, 2, none)
abbrev mX3_here : KM := (yX3_here, cX3_here, 1, (some .int))
abbrev mX3_isSignOf : KM := (yX3_isSignOf, cX3_isSignOf, 2, (some .boolean))
abbrev mX4_add : KM := (yX4_add, cX4_add, 2, none)
abbrev mX3_nameHere : KM := (yX3_nameHere, cX3_nameHere, 2, (some .int))
abbrev mX3_isDigit : KM := (yX3_isDigit, cX3_isDigit, 1, (some .boolean))
abbrev mX3_readNumber : KM := (yX3_readNumber, cX3_readNumber, 3, none)
abbrev mX3_stopHere : KM := (yX3_stopHere, cX3_stopHere, 1, none)
abbrev mX3_readClosing : KM := (yX3_readClosing, cX3_readClosing, 1, none)
abbrev mX3_readLevel : KM := (yX3_readLevel, cX3_readLevel, 6, none)
abbrev mX3_readQ : KM := (yX3_readQ, cX3_readQ, 3, none)
abbrev mX3_faultOf : KM := (yX3_faultOf, cX3_faultOf, 3, (some .int))
abbrev mX5_init : KM := (yX5_init, cX5_init, 1, none)
abbrev mX5_isSheet : KM := (yX5_isSheet, cX5_isSheet, 1, (some .boolean))
abbrev mX5_isMissing : KM := (yX5_isMissing, cX5_isMissing, 2, (some .boolean))
abbrev mX5_renew : KM := (yX5_renew, cX5_renew, 5, none)
abbrev mX5_numberAt : KM := (yX5_numberAt, cX5_numberAt, 3, (some .int))
abbrev mX5_setNumber : KM := (yX5_setNumber, cX5_setNumber, 5, none)
abbrev mX5_stand : KM := (yX5_stand, cX5_stand, 4, (some .boolean))
abbrev mX5_copyNumbers : KM := (yX5_copyNumbers, cX5_copyNumbers, 8, none)
abbrev mX6_init : KM := (yX6_init, cX6_init, 1, none)
abbrev mX6_isThere : KM := (yX6_isThere, cX6_isThere, 1, (some .boolean))
abbrev mX6_operand : KM := (yX6_operand, cX6_operand, 4, (some .int))
abbrev mX6_joined : KM := (yX6_joined, cX6_joined, 3, (some .int))
abbrev mX6_gives : KM := (yX6_gives, cX6_gives, 7, (some .int))
abbrev mX7_init : KM := (yX7_init, cX7_init, 1, none)
abbrev mJ6_bitCount_0f7a4 : KM := (yJ6_bitCount_0f7a4, cJ6_bitCount_0f7a4, 1, (some .int))
abbrev mX7_daysKeptBy : KM := (yX7_daysKeptBy, cX7_daysKeptBy, 4, (some .int))
abbrev mX7_fewestKeepers : KM := (yX7_fewestKeepers, cX7_fewestKeepers, 5, (some .int))
abbrev mX9_held : KM := (yX9_held, cX9_held, 2, (some .int))
abbrev mX9_useGives : KM := (yX9_useGives, cX9_useGives, 6, (some .int))
abbrev mX9_priceOf : KM := (yX9_priceOf, cX9_priceOf, 3, (some .int))
abbrev mX7_isLess : KM := (yX7_isLess, cX7_isLess, 3, (some .boolean))
abbrev mX7_leastOf : KM := (yX7_leastOf, cX7_leastOf, 4, (some .int))
abbrev mX7_howManyBought : KM := (yX7_howManyBought, cX7_howManyBought, 9, (some .int))
abbrev mX7_harmOf : KM := (yX7_harmOf, cX7_harmOf, 8, (some .int))
abbrev mX7_takenByBailiffs : KM := (yX7_takenByBailiffs, cX7_takenByBailiffs, 8, (some .int))
abbrev mX7_sumOver : KM := (yX7_sumOver, cX7_sumOver, 4, (some .int))
abbrev mX7_pricesOf : KM := (yX7_pricesOf, cX7_pricesOf, 2, (some .int))
abbrev mX7_harmsOf : KM := (yX7_harmsOf, cX7_harmsOf, 2, (some .int))
abbrev mX7_memberOf : KM := (yX7_memberOf, cX7_memberOf, 4, (some .int))
abbrev mX7_commonDivisor : KM := (yX7_commonDivisor, cX7_commonDivisor, 2, (some .int))
abbrev mX8_init : KM := (yX8_init, cX8_init, 1, none)
abbrev mX8_part : KM := (yX8_part, cX8_part, 3, (some .int))
abbrev mX8_own : KM := (yX8_own, cX8_own, 4, (some .int))
abbrev mX8_partAndTrade : KM := (yX8_partAndTrade, cX8_partAndTrade, 5, (some .int))
abbrev mX8_sound : KM := (yX8_sound, cX8_sound, 9, (some .int))
abbrev mX8_speak : KM := (yX8_speak, cX8_speak, 5, (some .int))
abbrev mX9_init : KM := (yX9_init, cX9_init, 1, none)
abbrev mX9_dayIn : KM := (yX9_dayIn, cX9_dayIn, 2, (some .int))
abbrev mX9_textOf : KM := (yX9_textOf, cX9_textOf, 2, (some (.object "SoldDays$Text")))
abbrev mX9_dayCanPass : KM := (yX9_dayCanPass, cX9_dayCanPass, 4, (some .boolean))
abbrev mX9_canPay : KM := (yX9_canPay, cX9_canPay, 4, (some .boolean))
abbrev mX9_saleCanBe : KM := (yX9_saleCanBe, cX9_saleCanBe, 4, (some .boolean))
abbrev mX9_weekCanBe : KM := (yX9_weekCanBe, cX9_weekCanBe, 6, (some .boolean))
abbrev mX9_makeSale : KM := (yX9_makeSale, cX9_makeSale, 5, (some .int))
abbrev mX9_draw : KM := (yX9_draw, cX9_draw, 1, (some .int))
abbrev mX9_saleByDraws : KM := (yX9_saleByDraws, cX9_saleByDraws, 4, (some .int))
abbrev mX9_older : KM := (yX9_older, cX9_older, 2, (some .int))
abbrev mX9_poorer : KM := (yX9_poorer, cX9_poorer, 2, (some .int))
abbrev mX9_oneMore : KM := (yX9_oneMore, cX9_oneMore, 1, (some .int))
abbrev mX9_letOneLive : KM := (yX9_letOneLive, cX9_letOneLive, 7, none)
abbrev mX9_settlePromises : KM := (yX9_settlePromises, cX9_settlePromises, 3, none)
abbrev mX9_letDayGo : KM := (yX9_letDayGo, cX9_letDayGo, 5, (some .int))
abbrev mX9_copyFrom : KM := (yX9_copyFrom, cX9_copyFrom, 2, none)
abbrev mX10_init : KM := (yX10_init, cX10_init, 1, none)
abbrev mX10_error : KM := (yX10_error, cX10_error, 2, (some .int))
abbrev mX10_isDay : KM := (yX10_isDay, cX10_isDay, 1, (some .boolean))
abbrev mX10_isUse : KM := (yX10_isUse, cX10_isUse, 1, (some .boolean))
abbrev mX10_isWithin : KM := (yX10_isWithin, cX10_isWithin, 3, (some .boolean))
abbrev mX10_person : KM := (yX10_person, cX10_person, 2, (some .int))
abbrev mX10_personIs : KM := (yX10_personIs, cX10_personIs, 4, (some .int))
abbrev mX10_become : KM := (yX10_become, cX10_become, 4, (some .int))
abbrev mX10_as : KM := (yX10_as, cX10_as, 3, (some .int))
abbrev mX10_change : KM := (yX10_change, cX10_change, 6, (some .int))
abbrev mX10_has : KM := (yX10_has, cX10_has, 3, (some .int))
abbrev mX10_give : KM := (yX10_give, cX10_give, 5, (some .int))
abbrev mX10_price : KM := (yX10_price, cX10_price, 3, (some .int))
abbrev mX10_sell : KM := (yX10_sell, cX10_sell, 4, (some .int))
abbrev mX10_sellWeek : KM := (yX10_sellWeek, cX10_sellWeek, 6, (some .int))
abbrev mX10_promise : KM := (yX10_promise, cX10_promise, 4, (some .int))
abbrev mX10_promiseIs : KM := (yX10_promiseIs, cX10_promiseIs, 4, (some .int))
abbrev mX10_feed : KM := (yX10_feed, cX10_feed, 5, (some .int))
abbrev mX10_text : KM := (yX10_text, cX10_text, 3, (some .int))
abbrev mX10_untell : KM := (yX10_untell, cX10_untell, 3, (some .int))
abbrev mX10_law : KM := (yX10_law, cX10_law, 5, (some .int))
abbrev mX10_days : KM := (yX10_days, cX10_days, 4, (some .int))
abbrev mX10_loose : KM := (yX10_loose, cX10_loose, 4, (some .int))
abbrev mX10_seed : KM := (yX10_seed, cX10_seed, 3, (some .int))
abbrev mX10_then : KM := (yX10_then, cX10_then, 9, (some .int))
abbrev mX10_alone : KM := (yX10_alone, cX10_alone, 4, (some .int))
abbrev mX10_meet : KM := (yX10_meet, cX10_meet, 5, (some .int))
abbrev mX10_keepers : KM := (yX10_keepers, cX10_keepers, 3, (some .int))
abbrev mX10_buys : KM := (yX10_buys, cX10_buys, 3, (some .int))
abbrev mX10_bailiffs : KM := (yX10_bailiffs, cX10_bailiffs, 5, (some .int))
abbrev mX10_odds : KM := (yX10_odds, cX10_odds, 4, (some .int))
abbrev mX10_livesAsTold : KM := (yX10_livesAsTold, cX10_livesAsTold, 4, (some .boolean))
abbrev mX10_fits : KM := (yX10_fits, cX10_fits, 4, (some .int))
abbrev mX10_voice : KM := (yX10_voice, cX10_voice, 5, (some .int))
abbrev mX10_body : KM := (yX10_body, cX10_body, 2, (some .int))
abbrev mX10_sheet : KM := (yX10_sheet, cX10_sheet, 4, (some .int))
abbrev mX10_put : KM := (yX10_put, cX10_put, 4, (some .int))
abbrev mX10_move : KM := (yX10_move, cX10_move, 6, (some .int))
abbrev mX10_funds : KM := (yX10_funds, cX10_funds, 5, (some .int))
abbrev mX10_judge : KM := (yX10_judge, cX10_judge, 4, (some .int))
abbrev mX10_image : KM := (yX10_image, cX10_image, 1, (some .int))
abbrev mX10_restore : KM := (yX10_restore, cX10_restore, 1, (some .int))
abbrev mX10_tell : KM := (yX10_tell, cX10_tell, 2, (some .int))
abbrev mX10_check : KM := (yX10_check, cX10_check, 3, (some .int))
abbrev mX10_count : KM := (yX10_count, cX10_count, 2, (some .int))
abbrev mX10_told : KM := (yX10_told, cX10_told, 2, (some .int))
abbrev mX11_init : KM := (yX11_init, cX11_init, 1, none)
abbrev mX11_error : KM := (yX11_error, cX11_error, 2, (some .int))
abbrev mX11_in : KM := (yX11_in, cX11_in, 3, (some .boolean))
abbrev mX11_held : KM := (yX11_held, cX11_held, 3, (some .int))
abbrev mX11_copyAll : KM := (yX11_copyAll, cX11_copyAll, 3, none)
abbrev mX11_bits : KM := (yX11_bits, cX11_bits, 3, (some .int))
abbrev mX11_isPerson : KM := (yX11_isPerson, cX11_isPerson, 2, (some .boolean))
abbrev mX11_areTwo : KM := (yX11_areTwo, cX11_areTwo, 3, (some .boolean))
abbrev mX11_isDay : KM := (yX11_isDay, cX11_isDay, 1, (some .boolean))
abbrev mX11_becomes : KM := (yX11_becomes, cX11_becomes, 4, (some .int))
abbrev mX11_of : KM := (yX11_of, cX11_of, 3, (some .int))
abbrev mX11_lay : KM := (yX11_lay, cX11_lay, 4, none)
abbrev mX11_said : KM := (yX11_said, cX11_said, 3, (some .int))
abbrev mX11_counts : KM := (yX11_counts, cX11_counts, 2, none)
abbrev mX11_livesOf : KM := (yX11_livesOf, cX11_livesOf, 8, (some .int))
abbrev mX11_isUp : KM := (yX11_isUp, cX11_isUp, 3, (some .boolean))
abbrev mX11_manyUp : KM := (yX11_manyUp, cX11_manyUp, 4, (some .int))
abbrev mX11_isKept : KM := (yX11_isKept, cX11_isKept, 3, (some .boolean))
abbrev mX11_notKept : KM := (yX11_notKept, cX11_notKept, 3, (some .int))
abbrev mX11_isKm : KM := (yX11_isKm, cX11_isKm, 1, (some .boolean))
abbrev mX11_person : KM := (yX11_person, cX11_person, 4, (some .int))
abbrev mX11_personIs : KM := (yX11_personIs, cX11_personIs, 3, (some .int))
abbrev mX11_become : KM := (yX11_become, cX11_become, 3, (some .int))
abbrev mX11_as : KM := (yX11_as, cX11_as, 5, (some .int))
abbrev mX11_change : KM := (yX11_change, cX11_change, 4, (some .int))
abbrev mX11_has : KM := (yX11_has, cX11_has, 3, (some .int))
abbrev mX11_give : KM := (yX11_give, cX11_give, 4, (some .int))
abbrev mX11_twoOf : KM := (yX11_twoOf, cX11_twoOf, 3, (some .int))
abbrev mX11_works : KM := (yX11_works, cX11_works, 5, (some .int))
abbrev mX11_gives : KM := (yX11_gives, cX11_gives, 7, (some .int))
abbrev mX11_priceOf : KM := (yX11_priceOf, cX11_priceOf, 3, (some .int))
abbrev mX11_canSell : KM := (yX11_canSell, cX11_canSell, 5, (some .boolean))
abbrev mX11_sells : KM := (yX11_sells, cX11_sells, 5, (some .int))
abbrev mX11_price : KM := (yX11_price, cX11_price, 3, (some .int))
abbrev mX11_sell : KM := (yX11_sell, cX11_sell, 4, (some .int))
abbrev mX11_thinks : KM := (yX11_thinks, cX11_thinks, 1, none)
abbrev mX11_putsBack : KM := (yX11_putsBack, cX11_putsBack, 1, none)
abbrev mX11_sellWeek : KM := (yX11_sellWeek, cX11_sellWeek, 6, (some .int))
abbrev mX11_promise : KM := (yX11_promise, cX11_promise, 5, (some .int))
abbrev mX11_promiseIs : KM := (yX11_promiseIs, cX11_promiseIs, 3, (some .int))
abbrev mX11_feed : KM := (yX11_feed, cX11_feed, 5, (some .int))
abbrev mX11_look : KM := (yX11_look, cX11_look, 1, (some .int))
abbrev mX11_step : KM := (yX11_step, cX11_step, 3, none)
abbrev mX11_nameOf : KM := (yX11_nameOf, cX11_nameOf, 2, (some .int))
abbrev mX11_number : KM := (yX11_number, cX11_number, 3, none)
abbrev mX11_all : KM := (yX11_all, cX11_all, 1, none)
abbrev mX11_any : KM := (yX11_any, cX11_any, 1, none)
abbrev mX11_compares : KM := (yX11_compares, cX11_compares, 2, none)
abbrev mX11_one : KM := (yX11_one, cX11_one, 3, none)
abbrev mX11_opens : KM := (yX11_opens, cX11_opens, 2, none)
abbrev mX11_sum : KM := (yX11_sum, cX11_sum, 2, none)
abbrev mX11_times : KM := (yX11_times, cX11_times, 2, none)
abbrev mX11_text : KM := (yX11_text, cX11_text, 4, (some .int))
abbrev mX11_untell : KM := (yX11_untell, cX11_untell, 2, (some .int))
abbrev mX11_law : KM := (yX11_law, cX11_law, 5, (some .int))
abbrev mX11_lives : KM := (yX11_lives, cX11_lives, 4, none)
abbrev mX11_goes : KM := (yX11_goes, cX11_goes, 4, (some .int))
abbrev mX11_days : KM := (yX11_days, cX11_days, 4, (some .int))
abbrev mX11_draw : KM := (yX11_draw, cX11_draw, 1, (some .int))
abbrev mX11_drawn : KM := (yX11_drawn, cX11_drawn, 4, (some .int))
abbrev mX11_loose : KM := (yX11_loose, cX11_loose, 4, (some .int))
abbrev mX11_seed : KM := (yX11_seed, cX11_seed, 2, (some .int))
abbrev mX11_then : KM := (yX11_then, cX11_then, 5, (some .int))
abbrev mX11_alone : KM := (yX11_alone, cX11_alone, 4, (some .int))
abbrev mX11_meet : KM := (yX11_meet, cX11_meet, 5, (some .int))
abbrev mX11_doKeep : KM := (yX11_doKeep, cX11_doKeep, 5, (some .boolean))
abbrev mX11_keepers : KM := (yX11_keepers, cX11_keepers, 4, (some .int))
abbrev mX11_costing : KM := (yX11_costing, cX11_costing, 7, (some .int))
abbrev mX11_buys : KM := (yX11_buys, cX11_buys, 9, (some .int))
abbrev mX11_takes : KM := (yX11_takes, cX11_takes, 9, none)
abbrev mX11_bailiffs : KM := (yX11_bailiffs, cX11_bailiffs, 4, (some .int))
abbrev mX11_odds : KM := (yX11_odds, cX11_odds, 6, (some .int))
abbrev mX11_isSheet : KM := (yX11_isSheet, cX11_isSheet, 1, (some .boolean))
abbrev mX11_notThere : KM := (yX11_notThere, cX11_notThere, 2, (some .int))
abbrev mX11_fits : KM := (yX11_fits, cX11_fits, 7, (some .int))
abbrev mX11_begins : KM := (yX11_begins, cX11_begins, 2, none)
abbrev mX11_plainYawns : KM := (yX11_plainYawns, cX11_plainYawns, 3, (some .int))
abbrev mX11_studentYawns : KM := (yX11_studentYawns, cX11_studentYawns, 3, (some .int))
abbrev mX11_yawns : KM := (yX11_yawns, cX11_yawns, 3, (some .int))
abbrev mX11_plainTrades : KM := (yX11_plainTrades, cX11_plainTrades, 3, (some .int))
abbrev mX11_widowTrades : KM := (yX11_widowTrades, cX11_widowTrades, 3, (some .int))
abbrev mX11_trades : KM := (yX11_trades, cX11_trades, 3, (some .int))
abbrev mX11_plainAges : KM := (yX11_plainAges, cX11_plainAges, 3, (some .int))
abbrev mX11_ages : KM := (yX11_ages, cX11_ages, 3, (some .int))
abbrev mX11_plainParts : KM := (yX11_plainParts, cX11_plainParts, 4, (some .int))
abbrev mX11_parts : KM := (yX11_parts, cX11_parts, 4, (some .int))
abbrev mX11_voice : KM := (yX11_voice, cX11_voice, 5, (some .int))
abbrev mX11_body : KM := (yX11_body, cX11_body, 2, (some .int))
abbrev mX11_sheet : KM := (yX11_sheet, cX11_sheet, 5, (some .int))
abbrev mX11_put : KM := (yX11_put, cX11_put, 5, (some .int))
abbrev mX11_notMoved : KM := (yX11_notMoved, cX11_notMoved, 7, (some .int))
abbrev mX11_move : KM := (yX11_move, cX11_move, 9, (some .int))
abbrev mX11_funds : KM := (yX11_funds, cX11_funds, 4, (some .int))
abbrev mX11_judge : KM := (yX11_judge, cX11_judge, 4, (some .int))
abbrev mX11_image : KM := (yX11_image, cX11_image, 1, (some .int))
abbrev mX11_restore : KM := (yX11_restore, cX11_restore, 1, (some .int))
abbrev mX11_tell : KM := (yX11_tell, cX11_tell, 2, (some .int))
abbrev mX11_check : KM := (yX11_check, cX11_check, 3, (some .int))
abbrev mX11_count : KM := (yX11_count, cX11_count, 2, (some .int))
abbrev mX11_told : KM := (yX11_told, cX11_told, 2, (some .int))
abbrev mJ9_max_7cf53 : KM := (yJ9_max_7cf53, cJ9_max_7cf53, 2, (some .int))
abbrev mJ9_min_7cf53 : KM := (yJ9_min_7cf53, cJ9_min_7cf53, 2, (some .int))
