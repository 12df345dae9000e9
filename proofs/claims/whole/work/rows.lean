section
-- ===== PART A: goes FIRST, ahead of the names: the tables' words, and 'selects' of the private methods out of them =====
/-- a private method of a class that the tables say can be made, by its rows of tables_1 -/
def lw_okq (q : MethodName × Nat) : Prop := (q.1.cls ≠ "java/lang/invoke/MethodHandle" ∧ q.1.cls ≠ "java/lang/invoke/VarHandle") ∧ Cond.instantiable q.1.cls q.2 ∈ tables_1 ∧ Cond.privateMethod q.1 ∈ tables_1 ∧ Cond.instanceMethod q.1 ∈ tables_1
theorem lw_p0 : lw_okq (⟨"TwinKings$DeedText", "parse", "()V"⟩, 6) := ⟨⟨by decide +kernel, by decide +kernel⟩, List.mem_of_getElem? (i := 21) (by decide +kernel), List.mem_of_getElem? (i := 203) (by decide +kernel), List.mem_of_getElem? (i := 204) (by decide +kernel)⟩
theorem lw_p1 : lw_okq (⟨"TwinKings$DeedText", "findFault", "()I"⟩, 6) := ⟨⟨by decide +kernel, by decide +kernel⟩, List.mem_of_getElem? (i := 21) (by decide +kernel), List.mem_of_getElem? (i := 207) (by decide +kernel), List.mem_of_getElem? (i := 208) (by decide +kernel)⟩
theorem lw_p2 : lw_okq (⟨"TwinKings$DeedText", "fits", "(I)Z"⟩, 6) := ⟨⟨by decide +kernel, by decide +kernel⟩, List.mem_of_getElem? (i := 21) (by decide +kernel), List.mem_of_getElem? (i := 211) (by decide +kernel), List.mem_of_getElem? (i := 212) (by decide +kernel)⟩
theorem lw_p3 : lw_okq (⟨"TwinKings", "changed", "(I)I"⟩, 16) := ⟨⟨by decide +kernel, by decide +kernel⟩, List.mem_of_getElem? (i := 13) (by decide +kernel), List.mem_of_getElem? (i := 216) (by decide +kernel), List.mem_of_getElem? (i := 217) (by decide +kernel)⟩
theorem lw_p4 : lw_okq (⟨"TwinKings$DeedText", "youngerSays", "(II)I"⟩, 6) := ⟨⟨by decide +kernel, by decide +kernel⟩, List.mem_of_getElem? (i := 21) (by decide +kernel), List.mem_of_getElem? (i := 268) (by decide +kernel), List.mem_of_getElem? (i := 269) (by decide +kernel)⟩
theorem lw_p5 : lw_okq (⟨"TwinKings", "undoable", "(I)LTwinKings$Rows;"⟩, 16) := ⟨⟨by decide +kernel, by decide +kernel⟩, List.mem_of_getElem? (i := 13) (by decide +kernel), List.mem_of_getElem? (i := 314) (by decide +kernel), List.mem_of_getElem? (i := 315) (by decide +kernel)⟩
theorem lw_p6 : lw_okq (⟨"TwinKings", "found", "(I)I"⟩, 16) := ⟨⟨by decide +kernel, by decide +kernel⟩, List.mem_of_getElem? (i := 13) (by decide +kernel), List.mem_of_getElem? (i := 333) (by decide +kernel), List.mem_of_getElem? (i := 334) (by decide +kernel)⟩
theorem lw_p7 : lw_okq (⟨"TwinKings", "laws", "()LTwinKings$Laws;"⟩, 16) := ⟨⟨by decide +kernel, by decide +kernel⟩, List.mem_of_getElem? (i := 13) (by decide +kernel), List.mem_of_getElem? (i := 351) (by decide +kernel), List.mem_of_getElem? (i := 352) (by decide +kernel)⟩
theorem lw_p8 : lw_okq (⟨"TwinKings$Laws", "gatherTurned", "(LTwinKings$Rows;I)V"⟩, 6) := ⟨⟨by decide +kernel, by decide +kernel⟩, List.mem_of_getElem? (i := 72) (by decide +kernel), List.mem_of_getElem? (i := 380) (by decide +kernel), List.mem_of_getElem? (i := 381) (by decide +kernel)⟩
theorem lw_p9 : lw_okq (⟨"TwinKings$Laws", "openBy", "(III)I"⟩, 6) := ⟨⟨by decide +kernel, by decide +kernel⟩, List.mem_of_getElem? (i := 72) (by decide +kernel), List.mem_of_getElem? (i := 401) (by decide +kernel), List.mem_of_getElem? (i := 402) (by decide +kernel)⟩
theorem lw_p10 : lw_okq (⟨"TwinKings", "finesInCoin", "(LTwinKings$Laws;II)I"⟩, 16) := ⟨⟨by decide +kernel, by decide +kernel⟩, List.mem_of_getElem? (i := 13) (by decide +kernel), List.mem_of_getElem? (i := 456) (by decide +kernel), List.mem_of_getElem? (i := 457) (by decide +kernel)⟩
theorem lw_p11 : lw_okq (⟨"TwinKings$Planner", "search", "(III)V"⟩, 7) := ⟨⟨by decide +kernel, by decide +kernel⟩, List.mem_of_getElem? (i := 97) (by decide +kernel), List.mem_of_getElem? (i := 526) (by decide +kernel), List.mem_of_getElem? (i := 527) (by decide +kernel)⟩
theorem lw_p12 : lw_okq (⟨"TwinKings$Planner", "keepRow", "()V"⟩, 7) := ⟨⟨by decide +kernel, by decide +kernel⟩, List.mem_of_getElem? (i := 97) (by decide +kernel), List.mem_of_getElem? (i := 530) (by decide +kernel), List.mem_of_getElem? (i := 531) (by decide +kernel)⟩
theorem lw_p13 : lw_okq (⟨"TwinKings$Laws", "playOn", "(IIII)I"⟩, 6) := ⟨⟨by decide +kernel, by decide +kernel⟩, List.mem_of_getElem? (i := 72) (by decide +kernel), List.mem_of_getElem? (i := 547) (by decide +kernel), List.mem_of_getElem? (i := 548) (by decide +kernel)⟩
theorem lw_p14 : lw_okq (⟨"TwinKings", "daysAsSeen", "()J"⟩, 16) := ⟨⟨by decide +kernel, by decide +kernel⟩, List.mem_of_getElem? (i := 13) (by decide +kernel), List.mem_of_getElem? (i := 586) (by decide +kernel), List.mem_of_getElem? (i := 587) (by decide +kernel)⟩
theorem lw_p15 : lw_okq (⟨"TwinKings", "agreesWithBook", "(LTwinKings$Laws;)Z"⟩, 16) := ⟨⟨by decide +kernel, by decide +kernel⟩, List.mem_of_getElem? (i := 13) (by decide +kernel), List.mem_of_getElem? (i := 611) (by decide +kernel), List.mem_of_getElem? (i := 612) (by decide +kernel)⟩
def lw_privs_1 : List (MethodName × Nat) := [(⟨"TwinKings$DeedText", "parse", "()V"⟩, 6), (⟨"TwinKings$DeedText", "findFault", "()I"⟩, 6), (⟨"TwinKings$DeedText", "fits", "(I)Z"⟩, 6), (⟨"TwinKings", "changed", "(I)I"⟩, 16), (⟨"TwinKings$DeedText", "youngerSays", "(II)I"⟩, 6), (⟨"TwinKings", "undoable", "(I)LTwinKings$Rows;"⟩, 16), (⟨"TwinKings", "found", "(I)I"⟩, 16), (⟨"TwinKings", "laws", "()LTwinKings$Laws;"⟩, 16), (⟨"TwinKings$Laws", "gatherTurned", "(LTwinKings$Rows;I)V"⟩, 6), (⟨"TwinKings$Laws", "openBy", "(III)I"⟩, 6), (⟨"TwinKings", "finesInCoin", "(LTwinKings$Laws;II)I"⟩, 16), (⟨"TwinKings$Planner", "search", "(III)V"⟩, 7), (⟨"TwinKings$Planner", "keepRow", "()V"⟩, 7), (⟨"TwinKings$Laws", "playOn", "(IIII)I"⟩, 6), (⟨"TwinKings", "daysAsSeen", "()J"⟩, 16), (⟨"TwinKings", "agreesWithBook", "(LTwinKings$Laws;)Z"⟩, 16)]
theorem lw_r1 : ∀ q ∈ lw_privs_1, lw_okq q := List.forall_mem_cons.mpr ⟨lw_p0, List.forall_mem_cons.mpr ⟨lw_p1, List.forall_mem_cons.mpr ⟨lw_p2, List.forall_mem_cons.mpr ⟨lw_p3, List.forall_mem_cons.mpr ⟨lw_p4, List.forall_mem_cons.mpr ⟨lw_p5, List.forall_mem_cons.mpr ⟨lw_p6, List.forall_mem_cons.mpr ⟨lw_p7, List.forall_mem_cons.mpr ⟨lw_p8, List.forall_mem_cons.mpr ⟨lw_p9, List.forall_mem_cons.mpr ⟨lw_p10, List.forall_mem_cons.mpr ⟨lw_p11, List.forall_mem_cons.mpr ⟨lw_p12, List.forall_mem_cons.mpr ⟨lw_p13, List.forall_mem_cons.mpr ⟨lw_p14, List.forall_mem_cons.mpr ⟨lw_p15, fun _ h => absurd h List.not_mem_nil⟩⟩⟩⟩⟩⟩⟩⟩⟩⟩⟩⟩⟩⟩⟩⟩
theorem lw_p16 : lw_okq (⟨"TwinKings$Sheet", "cut", "(I)I"⟩, 3) := ⟨⟨by decide +kernel, by decide +kernel⟩, List.mem_of_getElem? (i := 127) (by decide +kernel), List.mem_of_getElem? (i := 674) (by decide +kernel), List.mem_of_getElem? (i := 675) (by decide +kernel)⟩
theorem lw_p17 : lw_okq (⟨"TwinKings", "mixDeeds", "(J)J"⟩, 16) := ⟨⟨by decide +kernel, by decide +kernel⟩, List.mem_of_getElem? (i := 13) (by decide +kernel), List.mem_of_getElem? (i := 719) (by decide +kernel), List.mem_of_getElem? (i := 720) (by decide +kernel)⟩
theorem lw_p18 : lw_okq (⟨"TwinKings", "mixDays", "(J)J"⟩, 16) := ⟨⟨by decide +kernel, by decide +kernel⟩, List.mem_of_getElem? (i := 13) (by decide +kernel), List.mem_of_getElem? (i := 728) (by decide +kernel), List.mem_of_getElem? (i := 729) (by decide +kernel)⟩
theorem lw_p19 : lw_okq (⟨"TwinKings", "mixFines", "(J)J"⟩, 16) := ⟨⟨by decide +kernel, by decide +kernel⟩, List.mem_of_getElem? (i := 13) (by decide +kernel), List.mem_of_getElem? (i := 739) (by decide +kernel), List.mem_of_getElem? (i := 740) (by decide +kernel)⟩
theorem lw_p20 : lw_okq (⟨"TwinKings", "mixPlans", "(J)J"⟩, 16) := ⟨⟨by decide +kernel, by decide +kernel⟩, List.mem_of_getElem? (i := 13) (by decide +kernel), List.mem_of_getElem? (i := 745) (by decide +kernel), List.mem_of_getElem? (i := 746) (by decide +kernel)⟩
theorem lw_p21 : lw_okq (⟨"TwinKingsModel", "faultNow", "()I"⟩, 42) := ⟨⟨by decide +kernel, by decide +kernel⟩, List.mem_of_getElem? (i := 756) (by decide +kernel), List.mem_of_getElem? (i := 909) (by decide +kernel), List.mem_of_getElem? (i := 910) (by decide +kernel)⟩
theorem lw_p22 : lw_okq (⟨"TwinKingsModel", "isDeed", "(I)Z"⟩, 42) := ⟨⟨by decide +kernel, by decide +kernel⟩, List.mem_of_getElem? (i := 756) (by decide +kernel), List.mem_of_getElem? (i := 917) (by decide +kernel), List.mem_of_getElem? (i := 918) (by decide +kernel)⟩
theorem lw_p23 : lw_okq (⟨"TwinKingsModel", "reads", "()V"⟩, 42) := ⟨⟨by decide +kernel, by decide +kernel⟩, List.mem_of_getElem? (i := 756) (by decide +kernel), List.mem_of_getElem? (i := 921) (by decide +kernel), List.mem_of_getElem? (i := 922) (by decide +kernel)⟩
theorem lw_p24 : lw_okq (⟨"TwinKingsModel", "deedOf", "(II)I"⟩, 42) := ⟨⟨by decide +kernel, by decide +kernel⟩, List.mem_of_getElem? (i := 756) (by decide +kernel), List.mem_of_getElem? (i := 925) (by decide +kernel), List.mem_of_getElem? (i := 926) (by decide +kernel)⟩
theorem lw_p25 : lw_okq (⟨"TwinKingsModel", "youngerFirst", "()I"⟩, 42) := ⟨⟨by decide +kernel, by decide +kernel⟩, List.mem_of_getElem? (i := 756) (by decide +kernel), List.mem_of_getElem? (i := 929) (by decide +kernel), List.mem_of_getElem? (i := 930) (by decide +kernel)⟩
theorem lw_p26 : lw_okq (⟨"TwinKingsModel", "meets", "(I)I"⟩, 42) := ⟨⟨by decide +kernel, by decide +kernel⟩, List.mem_of_getElem? (i := 756) (by decide +kernel), List.mem_of_getElem? (i := 980) (by decide +kernel), List.mem_of_getElem? (i := 981) (by decide +kernel)⟩
theorem lw_p27 : lw_okq (⟨"TwinKingsModel", "rulesOf", "(I)I"⟩, 42) := ⟨⟨by decide +kernel, by decide +kernel⟩, List.mem_of_getElem? (i := 756) (by decide +kernel), List.mem_of_getElem? (i := 989) (by decide +kernel), List.mem_of_getElem? (i := 990) (by decide +kernel)⟩
theorem lw_p28 : lw_okq (⟨"TwinKingsModel", "isLeap", "(I)Z"⟩, 42) := ⟨⟨by decide +kernel, by decide +kernel⟩, List.mem_of_getElem? (i := 756) (by decide +kernel), List.mem_of_getElem? (i := 993) (by decide +kernel), List.mem_of_getElem? (i := 994) (by decide +kernel)⟩
theorem lw_p29 : lw_okq (⟨"TwinKingsModel", "isSick", "(II)Z"⟩, 42) := ⟨⟨by decide +kernel, by decide +kernel⟩, List.mem_of_getElem? (i := 756) (by decide +kernel), List.mem_of_getElem? (i := 997) (by decide +kernel), List.mem_of_getElem? (i := 998) (by decide +kernel)⟩
theorem lw_p30 : lw_okq (⟨"TwinKingsModel", "allowsOf", "(II)I"⟩, 42) := ⟨⟨by decide +kernel, by decide +kernel⟩, List.mem_of_getElem? (i := 756) (by decide +kernel), List.mem_of_getElem? (i := 1005) (by decide +kernel), List.mem_of_getElem? (i := 1006) (by decide +kernel)⟩
theorem lw_p31 : lw_okq (⟨"TwinKingsModel", "laysTold", "()V"⟩, 42) := ⟨⟨by decide +kernel, by decide +kernel⟩, List.mem_of_getElem? (i := 756) (by decide +kernel), List.mem_of_getElem? (i := 1009) (by decide +kernel), List.mem_of_getElem? (i := 1010) (by decide +kernel)⟩
def lw_privs_2 : List (MethodName × Nat) := [(⟨"TwinKings$Sheet", "cut", "(I)I"⟩, 3), (⟨"TwinKings", "mixDeeds", "(J)J"⟩, 16), (⟨"TwinKings", "mixDays", "(J)J"⟩, 16), (⟨"TwinKings", "mixFines", "(J)J"⟩, 16), (⟨"TwinKings", "mixPlans", "(J)J"⟩, 16), (⟨"TwinKingsModel", "faultNow", "()I"⟩, 42), (⟨"TwinKingsModel", "isDeed", "(I)Z"⟩, 42), (⟨"TwinKingsModel", "reads", "()V"⟩, 42), (⟨"TwinKingsModel", "deedOf", "(II)I"⟩, 42), (⟨"TwinKingsModel", "youngerFirst", "()I"⟩, 42), (⟨"TwinKingsModel", "meets", "(I)I"⟩, 42), (⟨"TwinKingsModel", "rulesOf", "(I)I"⟩, 42), (⟨"TwinKingsModel", "isLeap", "(I)Z"⟩, 42), (⟨"TwinKingsModel", "isSick", "(II)Z"⟩, 42), (⟨"TwinKingsModel", "allowsOf", "(II)I"⟩, 42), (⟨"TwinKingsModel", "laysTold", "()V"⟩, 42)]
theorem lw_r2 : ∀ q ∈ lw_privs_2, lw_okq q := List.forall_mem_cons.mpr ⟨lw_p16, List.forall_mem_cons.mpr ⟨lw_p17, List.forall_mem_cons.mpr ⟨lw_p18, List.forall_mem_cons.mpr ⟨lw_p19, List.forall_mem_cons.mpr ⟨lw_p20, List.forall_mem_cons.mpr ⟨lw_p21, List.forall_mem_cons.mpr ⟨lw_p22, List.forall_mem_cons.mpr ⟨lw_p23, List.forall_mem_cons.mpr ⟨lw_p24, List.forall_mem_cons.mpr ⟨lw_p25, List.forall_mem_cons.mpr ⟨lw_p26, List.forall_mem_cons.mpr ⟨lw_p27, List.forall_mem_cons.mpr ⟨lw_p28, List.forall_mem_cons.mpr ⟨lw_p29, List.forall_mem_cons.mpr ⟨lw_p30, List.forall_mem_cons.mpr ⟨lw_p31, fun _ h => absurd h List.not_mem_nil⟩⟩⟩⟩⟩⟩⟩⟩⟩⟩⟩⟩⟩⟩⟩⟩
theorem lw_p32 : lw_okq (⟨"TwinKingsModel", "asTold", "()V"⟩, 42) := ⟨⟨by decide +kernel, by decide +kernel⟩, List.mem_of_getElem? (i := 756) (by decide +kernel), List.mem_of_getElem? (i := 1013) (by decide +kernel), List.mem_of_getElem? (i := 1014) (by decide +kernel)⟩
theorem lw_p33 : lw_okq (⟨"TwinKingsModel", "lays", "()V"⟩, 42) := ⟨⟨by decide +kernel, by decide +kernel⟩, List.mem_of_getElem? (i := 756) (by decide +kernel), List.mem_of_getElem? (i := 1017) (by decide +kernel), List.mem_of_getElem? (i := 1018) (by decide +kernel)⟩
theorem lw_p34 : lw_okq (⟨"TwinKingsModel", "allDeeds", "()I"⟩, 42) := ⟨⟨by decide +kernel, by decide +kernel⟩, List.mem_of_getElem? (i := 756) (by decide +kernel), List.mem_of_getElem? (i := 1021) (by decide +kernel), List.mem_of_getElem? (i := 1022) (by decide +kernel)⟩
theorem lw_p35 : lw_okq (⟨"TwinKingsModel", "allowedOf", "(I)I"⟩, 42) := ⟨⟨by decide +kernel, by decide +kernel⟩, List.mem_of_getElem? (i := 756) (by decide +kernel), List.mem_of_getElem? (i := 1029) (by decide +kernel), List.mem_of_getElem? (i := 1030) (by decide +kernel)⟩
theorem lw_p36 : lw_okq (⟨"TwinKingsModel", "neverNow", "()I"⟩, 42) := ⟨⟨by decide +kernel, by decide +kernel⟩, List.mem_of_getElem? (i := 756) (by decide +kernel), List.mem_of_getElem? (i := 1037) (by decide +kernel), List.mem_of_getElem? (i := 1038) (by decide +kernel)⟩
theorem lw_p37 : lw_okq (⟨"TwinKingsModel", "alikeNow", "()I"⟩, 42) := ⟨⟨by decide +kernel, by decide +kernel⟩, List.mem_of_getElem? (i := 756) (by decide +kernel), List.mem_of_getElem? (i := 1045) (by decide +kernel), List.mem_of_getElem? (i := 1046) (by decide +kernel)⟩
theorem lw_p38 : lw_okq (⟨"TwinKingsModel", "crossingOf", "(I)I"⟩, 42) := ⟨⟨by decide +kernel, by decide +kernel⟩, List.mem_of_getElem? (i := 756) (by decide +kernel), List.mem_of_getElem? (i := 1053) (by decide +kernel), List.mem_of_getElem? (i := 1054) (by decide +kernel)⟩
theorem lw_p39 : lw_okq (⟨"TwinKingsModel", "finedOf", "(I)I"⟩, 42) := ⟨⟨by decide +kernel, by decide +kernel⟩, List.mem_of_getElem? (i := 756) (by decide +kernel), List.mem_of_getElem? (i := 1061) (by decide +kernel), List.mem_of_getElem? (i := 1062) (by decide +kernel)⟩
theorem lw_p40 : lw_okq (⟨"TwinKingsModel", "finedOn", "(II)I"⟩, 42) := ⟨⟨by decide +kernel, by decide +kernel⟩, List.mem_of_getElem? (i := 756) (by decide +kernel), List.mem_of_getElem? (i := 1065) (by decide +kernel), List.mem_of_getElem? (i := 1066) (by decide +kernel)⟩
theorem lw_p41 : lw_okq (⟨"TwinKingsModel", "coinsOf", "(I)I"⟩, 42) := ⟨⟨by decide +kernel, by decide +kernel⟩, List.mem_of_getElem? (i := 756) (by decide +kernel), List.mem_of_getElem? (i := 1073) (by decide +kernel), List.mem_of_getElem? (i := 1074) (by decide +kernel)⟩
theorem lw_p42 : lw_okq (⟨"TwinKingsModel", "soonestOf", "(III)I"⟩, 42) := ⟨⟨by decide +kernel, by decide +kernel⟩, List.mem_of_getElem? (i := 756) (by decide +kernel), List.mem_of_getElem? (i := 1081) (by decide +kernel), List.mem_of_getElem? (i := 1082) (by decide +kernel)⟩
theorem lw_p43 : lw_okq (⟨"TwinKingsModel", "firstFor", "(III)I"⟩, 42) := ⟨⟨by decide +kernel, by decide +kernel⟩, List.mem_of_getElem? (i := 756) (by decide +kernel), List.mem_of_getElem? (i := 1085) (by decide +kernel), List.mem_of_getElem? (i := 1086) (by decide +kernel)⟩
theorem lw_p44 : lw_okq (⟨"TwinKingsModel", "cheapestOf", "(IIII)I"⟩, 42) := ⟨⟨by decide +kernel, by decide +kernel⟩, List.mem_of_getElem? (i := 756) (by decide +kernel), List.mem_of_getElem? (i := 1093) (by decide +kernel), List.mem_of_getElem? (i := 1094) (by decide +kernel)⟩
theorem lw_p45 : lw_okq (⟨"TwinKingsModel", "finishOf", "(II)I"⟩, 42) := ⟨⟨by decide +kernel, by decide +kernel⟩, List.mem_of_getElem? (i := 756) (by decide +kernel), List.mem_of_getElem? (i := 1101) (by decide +kernel), List.mem_of_getElem? (i := 1102) (by decide +kernel)⟩
theorem lw_p46 : lw_okq (⟨"TwinKingsModel", "finishBy", "(I)I"⟩, 42) := ⟨⟨by decide +kernel, by decide +kernel⟩, List.mem_of_getElem? (i := 756) (by decide +kernel), List.mem_of_getElem? (i := 1105) (by decide +kernel), List.mem_of_getElem? (i := 1106) (by decide +kernel)⟩
theorem lw_p47 : lw_okq (⟨"TwinKingsModel", "planOf", "(II)I"⟩, 42) := ⟨⟨by decide +kernel, by decide +kernel⟩, List.mem_of_getElem? (i := 756) (by decide +kernel), List.mem_of_getElem? (i := 1113) (by decide +kernel), List.mem_of_getElem? (i := 1114) (by decide +kernel)⟩
def lw_privs_3 : List (MethodName × Nat) := [(⟨"TwinKingsModel", "asTold", "()V"⟩, 42), (⟨"TwinKingsModel", "lays", "()V"⟩, 42), (⟨"TwinKingsModel", "allDeeds", "()I"⟩, 42), (⟨"TwinKingsModel", "allowedOf", "(I)I"⟩, 42), (⟨"TwinKingsModel", "neverNow", "()I"⟩, 42), (⟨"TwinKingsModel", "alikeNow", "()I"⟩, 42), (⟨"TwinKingsModel", "crossingOf", "(I)I"⟩, 42), (⟨"TwinKingsModel", "finedOf", "(I)I"⟩, 42), (⟨"TwinKingsModel", "finedOn", "(II)I"⟩, 42), (⟨"TwinKingsModel", "coinsOf", "(I)I"⟩, 42), (⟨"TwinKingsModel", "soonestOf", "(III)I"⟩, 42), (⟨"TwinKingsModel", "firstFor", "(III)I"⟩, 42), (⟨"TwinKingsModel", "cheapestOf", "(IIII)I"⟩, 42), (⟨"TwinKingsModel", "finishOf", "(II)I"⟩, 42), (⟨"TwinKingsModel", "finishBy", "(I)I"⟩, 42), (⟨"TwinKingsModel", "planOf", "(II)I"⟩, 42)]
theorem lw_r3 : ∀ q ∈ lw_privs_3, lw_okq q := List.forall_mem_cons.mpr ⟨lw_p32, List.forall_mem_cons.mpr ⟨lw_p33, List.forall_mem_cons.mpr ⟨lw_p34, List.forall_mem_cons.mpr ⟨lw_p35, List.forall_mem_cons.mpr ⟨lw_p36, List.forall_mem_cons.mpr ⟨lw_p37, List.forall_mem_cons.mpr ⟨lw_p38, List.forall_mem_cons.mpr ⟨lw_p39, List.forall_mem_cons.mpr ⟨lw_p40, List.forall_mem_cons.mpr ⟨lw_p41, List.forall_mem_cons.mpr ⟨lw_p42, List.forall_mem_cons.mpr ⟨lw_p43, List.forall_mem_cons.mpr ⟨lw_p44, List.forall_mem_cons.mpr ⟨lw_p45, List.forall_mem_cons.mpr ⟨lw_p46, List.forall_mem_cons.mpr ⟨lw_p47, fun _ h => absurd h List.not_mem_nil⟩⟩⟩⟩⟩⟩⟩⟩⟩⟩⟩⟩⟩⟩⟩⟩
theorem lw_p48 : lw_okq (⟨"TwinKingsModel", "planBy", "(I)I"⟩, 42) := ⟨⟨by decide +kernel, by decide +kernel⟩, List.mem_of_getElem? (i := 756) (by decide +kernel), List.mem_of_getElem? (i := 1117) (by decide +kernel), List.mem_of_getElem? (i := 1118) (by decide +kernel)⟩
theorem lw_p49 : lw_okq (⟨"TwinKingsModel", "wordsOf", "(III)I"⟩, 42) := ⟨⟨by decide +kernel, by decide +kernel⟩, List.mem_of_getElem? (i := 756) (by decide +kernel), List.mem_of_getElem? (i := 1125) (by decide +kernel), List.mem_of_getElem? (i := 1126) (by decide +kernel)⟩
theorem lw_p50 : lw_okq (⟨"TwinKingsModel", "laysOuts", "(III)V"⟩, 42) := ⟨⟨by decide +kernel, by decide +kernel⟩, List.mem_of_getElem? (i := 756) (by decide +kernel), List.mem_of_getElem? (i := 1129) (by decide +kernel), List.mem_of_getElem? (i := 1130) (by decide +kernel)⟩
theorem lw_p51 : lw_okq (⟨"TwinKingsModel", "isWord", "(II)Z"⟩, 42) := ⟨⟨by decide +kernel, by decide +kernel⟩, List.mem_of_getElem? (i := 756) (by decide +kernel), List.mem_of_getElem? (i := 1133) (by decide +kernel), List.mem_of_getElem? (i := 1134) (by decide +kernel)⟩
theorem lw_p52 : lw_okq (⟨"TwinKingsModel", "bestOut", "(II)I"⟩, 42) := ⟨⟨by decide +kernel, by decide +kernel⟩, List.mem_of_getElem? (i := 756) (by decide +kernel), List.mem_of_getElem? (i := 1140) (by decide +kernel), List.mem_of_getElem? (i := 1141) (by decide +kernel)⟩
theorem lw_p53 : lw_okq (⟨"TwinKingsModel", "whenOf", "(I)I"⟩, 42) := ⟨⟨by decide +kernel, by decide +kernel⟩, List.mem_of_getElem? (i := 756) (by decide +kernel), List.mem_of_getElem? (i := 1160) (by decide +kernel), List.mem_of_getElem? (i := 1161) (by decide +kernel)⟩
theorem lw_p54 : lw_okq (⟨"TwinKingsModel", "isWhen", "(I)Z"⟩, 42) := ⟨⟨by decide +kernel, by decide +kernel⟩, List.mem_of_getElem? (i := 756) (by decide +kernel), List.mem_of_getElem? (i := 1164) (by decide +kernel), List.mem_of_getElem? (i := 1165) (by decide +kernel)⟩
theorem lw_p55 : lw_okq (⟨"TwinKingsModel", "isSo", "(III)Z"⟩, 42) := ⟨⟨by decide +kernel, by decide +kernel⟩, List.mem_of_getElem? (i := 756) (by decide +kernel), List.mem_of_getElem? (i := 1168) (by decide +kernel), List.mem_of_getElem? (i := 1169) (by decide +kernel)⟩
theorem lw_p56 : lw_okq (⟨"TwinKingsModel", "askNow", "()I"⟩, 42) := ⟨⟨by decide +kernel, by decide +kernel⟩, List.mem_of_getElem? (i := 756) (by decide +kernel), List.mem_of_getElem? (i := 1176) (by decide +kernel), List.mem_of_getElem? (i := 1177) (by decide +kernel)⟩
theorem lw_p57 : lw_okq (⟨"TwinKingsModel", "forgedNow", "()I"⟩, 42) := ⟨⟨by decide +kernel, by decide +kernel⟩, List.mem_of_getElem? (i := 756) (by decide +kernel), List.mem_of_getElem? (i := 1184) (by decide +kernel), List.mem_of_getElem? (i := 1185) (by decide +kernel)⟩
theorem lw_p58 : lw_okq (⟨"TwinKingsModel", "chanceOf", "(IIIII)J"⟩, 42) := ⟨⟨by decide +kernel, by decide +kernel⟩, List.mem_of_getElem? (i := 756) (by decide +kernel), List.mem_of_getElem? (i := 1192) (by decide +kernel), List.mem_of_getElem? (i := 1193) (by decide +kernel)⟩
theorem lw_p59 : lw_okq (⟨"TwinKingsModel", "chanceOn", "(III)I"⟩, 42) := ⟨⟨by decide +kernel, by decide +kernel⟩, List.mem_of_getElem? (i := 756) (by decide +kernel), List.mem_of_getElem? (i := 1196) (by decide +kernel), List.mem_of_getElem? (i := 1197) (by decide +kernel)⟩
theorem lw_p60 : lw_okq (⟨"TwinKingsModel", "yearOf", "(III)I"⟩, 42) := ⟨⟨by decide +kernel, by decide +kernel⟩, List.mem_of_getElem? (i := 756) (by decide +kernel), List.mem_of_getElem? (i := 1212) (by decide +kernel), List.mem_of_getElem? (i := 1213) (by decide +kernel)⟩
theorem lw_p61 : lw_okq (⟨"TwinKingsModel", "lacks", "(III)I"⟩, 42) := ⟨⟨by decide +kernel, by decide +kernel⟩, List.mem_of_getElem? (i := 756) (by decide +kernel), List.mem_of_getElem? (i := 1229) (by decide +kernel), List.mem_of_getElem? (i := 1230) (by decide +kernel)⟩
theorem lw_p62 : lw_okq (⟨"TwinKingsModel", "keep", "(III)V"⟩, 42) := ⟨⟨by decide +kernel, by decide +kernel⟩, List.mem_of_getElem? (i := 756) (by decide +kernel), List.mem_of_getElem? (i := 1233) (by decide +kernel), List.mem_of_getElem? (i := 1234) (by decide +kernel)⟩
theorem lw_p63 : lw_okq (⟨"TwinKingsModel", "deedDigest", "(JI)J"⟩, 42) := ⟨⟨by decide +kernel, by decide +kernel⟩, List.mem_of_getElem? (i := 756) (by decide +kernel), List.mem_of_getElem? (i := 1261) (by decide +kernel), List.mem_of_getElem? (i := 1262) (by decide +kernel)⟩
def lw_privs_4 : List (MethodName × Nat) := [(⟨"TwinKingsModel", "planBy", "(I)I"⟩, 42), (⟨"TwinKingsModel", "wordsOf", "(III)I"⟩, 42), (⟨"TwinKingsModel", "laysOuts", "(III)V"⟩, 42), (⟨"TwinKingsModel", "isWord", "(II)Z"⟩, 42), (⟨"TwinKingsModel", "bestOut", "(II)I"⟩, 42), (⟨"TwinKingsModel", "whenOf", "(I)I"⟩, 42), (⟨"TwinKingsModel", "isWhen", "(I)Z"⟩, 42), (⟨"TwinKingsModel", "isSo", "(III)Z"⟩, 42), (⟨"TwinKingsModel", "askNow", "()I"⟩, 42), (⟨"TwinKingsModel", "forgedNow", "()I"⟩, 42), (⟨"TwinKingsModel", "chanceOf", "(IIIII)J"⟩, 42), (⟨"TwinKingsModel", "chanceOn", "(III)I"⟩, 42), (⟨"TwinKingsModel", "yearOf", "(III)I"⟩, 42), (⟨"TwinKingsModel", "lacks", "(III)I"⟩, 42), (⟨"TwinKingsModel", "keep", "(III)V"⟩, 42), (⟨"TwinKingsModel", "deedDigest", "(JI)J"⟩, 42)]
theorem lw_r4 : ∀ q ∈ lw_privs_4, lw_okq q := List.forall_mem_cons.mpr ⟨lw_p48, List.forall_mem_cons.mpr ⟨lw_p49, List.forall_mem_cons.mpr ⟨lw_p50, List.forall_mem_cons.mpr ⟨lw_p51, List.forall_mem_cons.mpr ⟨lw_p52, List.forall_mem_cons.mpr ⟨lw_p53, List.forall_mem_cons.mpr ⟨lw_p54, List.forall_mem_cons.mpr ⟨lw_p55, List.forall_mem_cons.mpr ⟨lw_p56, List.forall_mem_cons.mpr ⟨lw_p57, List.forall_mem_cons.mpr ⟨lw_p58, List.forall_mem_cons.mpr ⟨lw_p59, List.forall_mem_cons.mpr ⟨lw_p60, List.forall_mem_cons.mpr ⟨lw_p61, List.forall_mem_cons.mpr ⟨lw_p62, List.forall_mem_cons.mpr ⟨lw_p63, fun _ h => absurd h List.not_mem_nil⟩⟩⟩⟩⟩⟩⟩⟩⟩⟩⟩⟩⟩⟩⟩⟩
theorem lw_p64 : lw_okq (⟨"TwinKingsModel", "dayDigest", "(JI)J"⟩, 42) := ⟨⟨by decide +kernel, by decide +kernel⟩, List.mem_of_getElem? (i := 756) (by decide +kernel), List.mem_of_getElem? (i := 1265) (by decide +kernel), List.mem_of_getElem? (i := 1266) (by decide +kernel)⟩
def lw_privs_5 : List (MethodName × Nat) := [(⟨"TwinKingsModel", "dayDigest", "(JI)J"⟩, 42)]
theorem lw_r5 : ∀ q ∈ lw_privs_5, lw_okq q := List.forall_mem_cons.mpr ⟨lw_p64, fun _ h => absurd h List.not_mem_nil⟩
def lw_privs : List (MethodName × Nat) := lw_privs_1 ++ (lw_privs_2 ++ (lw_privs_3 ++ (lw_privs_4 ++ (lw_privs_5))))
def lw_tbl : List Cond := k2_sels lw_privs ++ tables_1
theorem lw_privs_ok : ∀ q ∈ lw_privs, lw_okq q := by
  show ∀ q ∈ lw_privs_1 ++ (lw_privs_2 ++ (lw_privs_3 ++ (lw_privs_4 ++ (lw_privs_5)))), lw_okq q
  exact List.forall_mem_append.mpr ⟨lw_r1, List.forall_mem_append.mpr ⟨lw_r2, List.forall_mem_append.mpr ⟨lw_r3, List.forall_mem_append.mpr ⟨lw_r4, lw_r5⟩⟩⟩⟩
end
section
def RX0 : String := "TwinKings$DeedText"
def TX0 : u_T := fun k => match k with
  | 0 => ("TwinKings$DeedText", "bytes", "[I", true)
  | 1 => ("TwinKings$DeedText", "fines", "[I", true)
  | 2 => ("TwinKings$DeedText", "length", "I", false)
  | 3 => ("TwinKings$DeedText", "faultAt", "I", false)
  | 4 => ("TwinKings$DeedText", "number", "I", false)
  | _ => ("TwinKings$DeedText", "elder", "I", false)
def tyX0 : Nat → FieldType := fun k => match k with
  | 0 => .array .int
  | 1 => .array .int
  | 2 => .int
  | 3 => .int
  | 4 => .int
  | _ => .int
abbrev wsX00 : List Cond := u_ws RX0 TX0 6
theorem nmX0 : ∀ a, a < 6 → ∀ b, b < 6 → a ≠ b → (TX0 a).2.1 ≠ (TX0 b).2.1 := by decide +kernel
theorem tyX0_ok : ∀ k, k < 6 → parseFieldDescriptor (TX0 k).2.2.1 = some (tyX0 k) := by decide +kernel
abbrev cX0_init : ByteArray := prog_2_method_1_code
def yX0_init : MethodName := ⟨RX0, "<init>", "()V"⟩
abbrev cX0_length : ByteArray := prog_2_method_2_code
def yX0_length : MethodName := ⟨RX0, "length", "()I"⟩
abbrev cX0_number : ByteArray := prog_2_method_3_code
def yX0_number : MethodName := ⟨RX0, "number", "()I"⟩
abbrev cX0_faultPlace : ByteArray := prog_2_method_4_code
def yX0_faultPlace : MethodName := ⟨RX0, "faultPlace", "()I"⟩
abbrev cX0_has : ByteArray := prog_2_method_5_code
def yX0_has : MethodName := ⟨RX0, "has", "(I)Z"⟩
abbrev cX0_fineOf : ByteArray := prog_2_method_6_code
def yX0_fineOf : MethodName := ⟨RX0, "fineOf", "(I)I"⟩
abbrev cX0_elderBits : ByteArray := prog_2_method_7_code
def yX0_elderBits : MethodName := ⟨RX0, "elderBits", "()I"⟩
abbrev cX0_youngerBits : ByteArray := prog_2_method_8_code
def yX0_youngerBits : MethodName := ⟨RX0, "youngerBits", "(I)I"⟩
abbrev cX0_append : ByteArray := prog_2_method_9_code
def yX0_append : MethodName := ⟨RX0, "append", "(I)I"⟩
abbrev cX0_dropLast : ByteArray := prog_2_method_10_code
def yX0_dropLast : MethodName := ⟨RX0, "dropLast", "()I"⟩
abbrev cX0_clear : ByteArray := prog_2_method_11_code
def yX0_clear : MethodName := ⟨RX0, "clear", "()I"⟩
abbrev cX0_youngerSays : ByteArray := prog_2_method_12_code
def yX0_youngerSays : MethodName := ⟨RX0, "youngerSays", "(II)I"⟩
abbrev cX0_parse : ByteArray := prog_2_method_13_code
def yX0_parse : MethodName := ⟨RX0, "parse", "()V"⟩
abbrev cX0_findFault : ByteArray := prog_2_method_14_code
def yX0_findFault : MethodName := ⟨RX0, "findFault", "()I"⟩
abbrev cX0_fits : ByteArray := prog_2_method_15_code
def yX0_fits : MethodName := ⟨RX0, "fits", "(I)Z"⟩
def RX1 : String := "TwinKings$Laws"
def TX1 : u_T := fun k => match k with
  | 0 => ("TwinKings$Laws", "rulers", "[I", true)
  | 1 => ("TwinKings$Laws", "elderSays", "[I", true)
  | 2 => ("TwinKings$Laws", "youngerSays", "[I", true)
  | 3 => ("TwinKings$Laws", "open", "[I", true)
  | 4 => ("TwinKings$Laws", "turned", "[I", true)
  | _ => ("TwinKings$Laws", "number", "I", false)
def tyX1 : Nat → FieldType := fun k => match k with
  | 0 => .array .int
  | 1 => .array .int
  | 2 => .array .int
  | 3 => .array .int
  | 4 => .array .int
  | _ => .int
abbrev wsX10 : List Cond := u_ws RX1 TX1 6
theorem nmX1 : ∀ a, a < 6 → ∀ b, b < 6 → a ≠ b → (TX1 a).2.1 ≠ (TX1 b).2.1 := by decide +kernel
theorem tyX1_ok : ∀ k, k < 6 → parseFieldDescriptor (TX1 k).2.2.1 = some (tyX1 k) := by decide +kernel
abbrev cX1_init : ByteArray := prog_3_method_1_code
def yX1_init : MethodName := ⟨RX1, "<init>", "()V"⟩
abbrev cX1_seat : ByteArray := prog_3_method_2_code
def yX1_seat : MethodName := ⟨RX1, "seat", "(LTwinKings$Rows;LTwinKings$Rows;)V"⟩
abbrev cX1_speak : ByteArray := prog_3_method_3_code
def yX1_speak : MethodName := ⟨RX1, "speak", "(LTwinKings$DeedText;ILTwinKings$Rows;I)V"⟩
abbrev cX1_everyDeed : ByteArray := prog_3_method_4_code
def yX1_everyDeed : MethodName := ⟨RX1, "everyDeed", "()I"⟩
abbrev cX1_rulerOn : ByteArray := prog_3_method_5_code
def yX1_rulerOn : MethodName := ⟨RX1, "rulerOn", "(I)I"⟩
abbrev cX1_coinOn : ByteArray := prog_3_method_6_code
def yX1_coinOn : MethodName := ⟨RX1, "coinOn", "(I)I"⟩
abbrev cX1_saidOn : ByteArray := prog_3_method_7_code
def yX1_saidOn : MethodName := ⟨RX1, "saidOn", "(II)I"⟩
abbrev cX1_openOn : ByteArray := prog_3_method_8_code
def yX1_openOn : MethodName := ⟨RX1, "openOn", "(I)I"⟩
abbrev cX1_openDays : ByteArray := prog_3_method_9_code
def yX1_openDays : MethodName := ⟨RX1, "openDays", "(I)J"⟩
abbrev cX1_startDays : ByteArray := prog_3_method_10_code
def yX1_startDays : MethodName := ⟨RX1, "startDays", "(II)J"⟩
abbrev cX1_openIn256 : ByteArray := prog_3_method_11_code
def yX1_openIn256 : MethodName := ⟨RX1, "openIn256", "(III)I"⟩
abbrev cX1_numberAtBest : ByteArray := prog_3_method_12_code
def yX1_numberAtBest : MethodName := ⟨RX1, "numberAtBest", "(II)I"⟩
abbrev cX1_wordAtBest : ByteArray := prog_3_method_13_code
def yX1_wordAtBest : MethodName := ⟨RX1, "wordAtBest", "(II)I"⟩
abbrev cX1_playOn : ByteArray := prog_3_method_14_code
def yX1_playOn : MethodName := ⟨RX1, "playOn", "(IIII)I"⟩
abbrev cX1_isSunday : ByteArray := prog_3_method_15_code
def yX1_isSunday : MethodName := ⟨RX1, "isSunday", "(I)Z"⟩
abbrev cX1_kingInTurn : ByteArray := prog_3_method_16_code
def yX1_kingInTurn : MethodName := ⟨RX1, "kingInTurn", "(I)I"⟩
abbrev cX1_rulerBy : ByteArray := prog_3_method_17_code
def yX1_rulerBy : MethodName := ⟨RX1, "rulerBy", "(ILTwinKings$Rows;LTwinKings$Rows;)I"⟩
abbrev cX1_gatherTurned : ByteArray := prog_3_method_18_code
def yX1_gatherTurned : MethodName := ⟨RX1, "gatherTurned", "(LTwinKings$Rows;I)V"⟩
abbrev cX1_openBy : ByteArray := prog_3_method_19_code
def yX1_openBy : MethodName := ⟨RX1, "openBy", "(III)I"⟩
def RX2 : String := "TwinKings$Planner"
def TX2 : u_T := fun k => match k with
  | 0 => ("TwinKings$Planner", "starts", "[J", true)
  | 1 => ("TwinKings$Planner", "lengths", "[I", true)
  | 2 => ("TwinKings$Planner", "turnStarts", "[I", true)
  | 3 => ("TwinKings$Planner", "row", "[I", true)
  | 4 => ("TwinKings$Planner", "bestRow", "[I", true)
  | 5 => ("TwinKings$Planner", "number", "I", false)
  | _ => ("TwinKings$Planner", "bestEnd", "I", false)
def tyX2 : Nat → FieldType := fun k => match k with
  | 0 => .array .long
  | 1 => .array .int
  | 2 => .array .int
  | 3 => .array .int
  | 4 => .array .int
  | 5 => .int
  | _ => .int
abbrev wsX20 : List Cond := u_ws RX2 TX2 7
theorem nmX2 : ∀ a, a < 7 → ∀ b, b < 7 → a ≠ b → (TX2 a).2.1 ≠ (TX2 b).2.1 := by decide +kernel
theorem tyX2_ok : ∀ k, k < 7 → parseFieldDescriptor (TX2 k).2.2.1 = some (tyX2 k) := by decide +kernel
abbrev cX2_init : ByteArray := prog_4_method_1_code
def yX2_init : MethodName := ⟨RX2, "<init>", "()V"⟩
abbrev cX2_prepare : ByteArray := prog_4_method_2_code
def yX2_prepare : MethodName := ⟨RX2, "prepare", "(LTwinKings$Rows;LTwinKings$Laws;)V"⟩
abbrev cX2_layInTurn : ByteArray := prog_4_method_3_code
def yX2_layInTurn : MethodName := ⟨RX2, "layInTurn", "(I)I"⟩
abbrev cX2_startInTurn : ByteArray := prog_4_method_4_code
def yX2_startInTurn : MethodName := ⟨RX2, "startInTurn", "(I)I"⟩
abbrev cX2_findBestRow : ByteArray := prog_4_method_5_code
def yX2_findBestRow : MethodName := ⟨RX2, "findBestRow", "(I)I"⟩
abbrev cX2_taskInBestRow : ByteArray := prog_4_method_6_code
def yX2_taskInBestRow : MethodName := ⟨RX2, "taskInBestRow", "(I)I"⟩
abbrev cX2_search : ByteArray := prog_4_method_7_code
def yX2_search : MethodName := ⟨RX2, "search", "(III)V"⟩
abbrev cX2_keepRow : ByteArray := prog_4_method_8_code
def yX2_keepRow : MethodName := ⟨RX2, "keepRow", "()V"⟩
def RX3 : String := "TwinKings$Rows"
def TX3 : u_T := fun k => match k with
  | 0 => ("TwinKings$Rows", "room", "I", true)
  | 1 => ("TwinKings$Rows", "firsts", "[I", true)
  | 2 => ("TwinKings$Rows", "seconds", "[I", true)
  | 3 => ("TwinKings$Rows", "thirds", "[I", true)
  | _ => ("TwinKings$Rows", "size", "I", false)
def tyX3 : Nat → FieldType := fun k => match k with
  | 0 => .int
  | 1 => .array .int
  | 2 => .array .int
  | 3 => .array .int
  | _ => .int
abbrev wsX30 : List Cond := u_ws RX3 TX3 5
theorem nmX3 : ∀ a, a < 5 → ∀ b, b < 5 → a ≠ b → (TX3 a).2.1 ≠ (TX3 b).2.1 := by decide +kernel
theorem tyX3_ok : ∀ k, k < 5 → parseFieldDescriptor (TX3 k).2.2.1 = some (tyX3 k) := by decide +kernel
abbrev cX3_init : ByteArray := prog_5_method_1_code
def yX3_init : MethodName := ⟨RX3, "<init>", "(I)V"⟩
abbrev cX3_size : ByteArray := prog_5_method_2_code
def yX3_size : MethodName := ⟨RX3, "size", "()I"⟩
abbrev cX3_add : ByteArray := prog_5_method_3_code
def yX3_add : MethodName := ⟨RX3, "add", "(III)I"⟩
abbrev cX3_dropLast : ByteArray := prog_5_method_4_code
def yX3_dropLast : MethodName := ⟨RX3, "dropLast", "()I"⟩
abbrev cX3_clear : ByteArray := prog_5_method_5_code
def yX3_clear : MethodName := ⟨RX3, "clear", "()I"⟩
abbrev cX3_first : ByteArray := prog_5_method_6_code
def yX3_first : MethodName := ⟨RX3, "first", "(I)I"⟩
abbrev cX3_second : ByteArray := prog_5_method_7_code
def yX3_second : MethodName := ⟨RX3, "second", "(I)I"⟩
abbrev cX3_third : ByteArray := prog_5_method_8_code
def yX3_third : MethodName := ⟨RX3, "third", "(I)I"⟩
abbrev cX3_holds : ByteArray := prog_5_method_9_code
def yX3_holds : MethodName := ⟨RX3, "holds", "(II)Z"⟩
def RX4 : String := "TwinKings$Sheet"
def TX4 : u_T := fun k => match k with
  | 0 => ("TwinKings$Sheet", "items", "[I", true)
  | 1 => ("TwinKings$Sheet", "form", "I", false)
  | _ => ("TwinKings$Sheet", "size", "I", false)
def tyX4 : Nat → FieldType := fun k => match k with
  | 0 => .array .int
  | 1 => .int
  | _ => .int
abbrev wsX40 : List Cond := u_ws RX4 TX4 3
theorem nmX4 : ∀ a, a < 3 → ∀ b, b < 3 → a ≠ b → (TX4 a).2.1 ≠ (TX4 b).2.1 := by decide +kernel
theorem tyX4_ok : ∀ k, k < 3 → parseFieldDescriptor (TX4 k).2.2.1 = some (tyX4 k) := by decide +kernel
abbrev cX4_init : ByteArray := prog_6_method_1_code
def yX4_init : MethodName := ⟨RX4, "<init>", "()V"⟩
abbrev cX4_isLost : ByteArray := prog_6_method_2_code
def yX4_isLost : MethodName := ⟨RX4, "isLost", "()Z"⟩
abbrev cX4_form : ByteArray := prog_6_method_3_code
def yX4_form : MethodName := ⟨RX4, "form", "()I"⟩
abbrev cX4_size : ByteArray := prog_6_method_4_code
def yX4_size : MethodName := ⟨RX4, "size", "()I"⟩
abbrev cX4_begin : ByteArray := prog_6_method_5_code
def yX4_begin : MethodName := ⟨RX4, "begin", "(II)V"⟩
abbrev cX4_tear : ByteArray := prog_6_method_6_code
def yX4_tear : MethodName := ⟨RX4, "tear", "()I"⟩
abbrev cX4_hasRange : ByteArray := prog_6_method_7_code
def yX4_hasRange : MethodName := ⟨RX4, "hasRange", "(II)Z"⟩
abbrev cX4_item : ByteArray := prog_6_method_8_code
def yX4_item : MethodName := ⟨RX4, "item", "(I)I"⟩
abbrev cX4_keep : ByteArray := prog_6_method_9_code
def yX4_keep : MethodName := ⟨RX4, "keep", "(II)V"⟩
abbrev cX4_takeItems : ByteArray := prog_6_method_10_code
def yX4_takeItems : MethodName := ⟨RX4, "takeItems", "(ILTwinKings$Sheet;II)V"⟩
abbrev cX4_cut : ByteArray := prog_6_method_11_code
def yX4_cut : MethodName := ⟨RX4, "cut", "(I)I"⟩
def RX5 : String := "TwinKings"
def TX5 : u_T := fun k => match k with
  | 0 => ("TwinKings", "text", "LTwinKings$DeedText;", true)
  | 1 => ("TwinKings", "sickRows", "LTwinKings$Rows;", true)
  | 2 => ("TwinKings", "leapRows", "LTwinKings$Rows;", true)
  | 3 => ("TwinKings", "edictRows", "LTwinKings$Rows;", true)
  | 4 => ("TwinKings", "doneRows", "LTwinKings$Rows;", true)
  | 5 => ("TwinKings", "taskRows", "LTwinKings$Rows;", true)
  | 6 => ("TwinKings", "seenRows", "LTwinKings$Rows;", true)
  | 7 => ("TwinKings", "bookRows", "LTwinKings$Rows;", true)
  | 8 => ("TwinKings", "told", "LTwinKings$Laws;", true)
  | 9 => ("TwinKings", "supposed", "LTwinKings$Laws;", true)
  | 10 => ("TwinKings", "planner", "LTwinKings$Planner;", true)
  | 11 => ("TwinKings", "sheets", "[LTwinKings$Sheet;", true)
  | 12 => ("TwinKings", "rule", "I", false)
  | 13 => ("TwinKings", "court", "I", false)
  | 14 => ("TwinKings", "finding", "I", false)
  | _ => ("TwinKings", "stale", "Z", false)
def tyX5 : Nat → FieldType := fun k => match k with
  | 0 => .object "TwinKings$DeedText"
  | 1 => .object "TwinKings$Rows"
  | 2 => .object "TwinKings$Rows"
  | 3 => .object "TwinKings$Rows"
  | 4 => .object "TwinKings$Rows"
  | 5 => .object "TwinKings$Rows"
  | 6 => .object "TwinKings$Rows"
  | 7 => .object "TwinKings$Rows"
  | 8 => .object "TwinKings$Laws"
  | 9 => .object "TwinKings$Laws"
  | 10 => .object "TwinKings$Planner"
  | 11 => .array (.object "TwinKings$Sheet")
  | 12 => .int
  | 13 => .int
  | 14 => .int
  | _ => .boolean
abbrev wsX50 : List Cond := u_ws RX5 TX5 16
theorem nmX5 : ∀ a, a < 16 → ∀ b, b < 16 → a ≠ b → (TX5 a).2.1 ≠ (TX5 b).2.1 := by decide +kernel
theorem tyX5_ok : ∀ k, k < 16 → parseFieldDescriptor (TX5 k).2.2.1 = some (tyX5 k) := by decide +kernel
abbrev cX5_init : ByteArray := prog_1_method_1_code
def yX5_init : MethodName := ⟨RX5, "<init>", "()V"⟩
abbrev cX5_type : ByteArray := prog_1_method_2_code
def yX5_type : MethodName := ⟨RX5, "type", "(I)I"⟩
abbrev cX5_wipe : ByteArray := prog_1_method_3_code
def yX5_wipe : MethodName := ⟨RX5, "wipe", "()I"⟩
abbrev cX5_undo : ByteArray := prog_1_method_4_code
def yX5_undo : MethodName := ⟨RX5, "undo", "()I"⟩
abbrev cX5_fault : ByteArray := prog_1_method_5_code
def yX5_fault : MethodName := ⟨RX5, "fault", "()I"⟩
abbrev cX5_deed : ByteArray := prog_1_method_6_code
def yX5_deed : MethodName := ⟨RX5, "deed", "(II)I"⟩
abbrev cX5_set : ByteArray := prog_1_method_7_code
def yX5_set : MethodName := ⟨RX5, "set", "(II)I"⟩
abbrev cX5_sick : ByteArray := prog_1_method_8_code
def yX5_sick : MethodName := ⟨RX5, "sick", "(II)I"⟩
abbrev cX5_leap : ByteArray := prog_1_method_9_code
def yX5_leap : MethodName := ⟨RX5, "leap", "(I)I"⟩
abbrev cX5_edict : ByteArray := prog_1_method_10_code
def yX5_edict : MethodName := ⟨RX5, "edict", "(II)I"⟩
abbrev cX5_does : ByteArray := prog_1_method_11_code
def yX5_does : MethodName := ⟨RX5, "does", "(III)I"⟩
abbrev cX5_task : ByteArray := prog_1_method_12_code
def yX5_task : MethodName := ⟨RX5, "task", "(II)I"⟩
abbrev cX5_back : ByteArray := prog_1_method_13_code
def yX5_back : MethodName := ⟨RX5, "back", "(I)I"⟩
abbrev cX5_read : ByteArray := prog_1_method_14_code
def yX5_read : MethodName := ⟨RX5, "read", "(I)I"⟩
abbrev cX5_rules : ByteArray := prog_1_method_15_code
def yX5_rules : MethodName := ⟨RX5, "rules", "(I)I"⟩
abbrev cX5_allows : ByteArray := prog_1_method_16_code
def yX5_allows : MethodName := ⟨RX5, "allows", "(II)I"⟩
abbrev cX5_allowed : ByteArray := prog_1_method_17_code
def yX5_allowed : MethodName := ⟨RX5, "allowed", "(I)I"⟩
abbrev cX5_never : ByteArray := prog_1_method_18_code
def yX5_never : MethodName := ⟨RX5, "never", "()I"⟩
abbrev cX5_alike : ByteArray := prog_1_method_19_code
def yX5_alike : MethodName := ⟨RX5, "alike", "()I"⟩
abbrev cX5_crossing : ByteArray := prog_1_method_20_code
def yX5_crossing : MethodName := ⟨RX5, "crossing", "(I)I"⟩
abbrev cX5_fined : ByteArray := prog_1_method_21_code
def yX5_fined : MethodName := ⟨RX5, "fined", "(I)I"⟩
abbrev cX5_coins : ByteArray := prog_1_method_22_code
def yX5_coins : MethodName := ⟨RX5, "coins", "(I)I"⟩
abbrev cX5_soonest : ByteArray := prog_1_method_23_code
def yX5_soonest : MethodName := ⟨RX5, "soonest", "(III)I"⟩
abbrev cX5_cheapest : ByteArray := prog_1_method_24_code
def yX5_cheapest : MethodName := ⟨RX5, "cheapest", "(IIII)I"⟩
abbrev cX5_finish : ByteArray := prog_1_method_25_code
def yX5_finish : MethodName := ⟨RX5, "finish", "(II)I"⟩
abbrev cX5_plan : ByteArray := prog_1_method_26_code
def yX5_plan : MethodName := ⟨RX5, "plan", "(II)I"⟩
abbrev cX5_words : ByteArray := prog_1_method_27_code
def yX5_words : MethodName := ⟨RX5, "words", "(III)I"⟩
abbrev cX5_seen : ByteArray := prog_1_method_28_code
def yX5_seen : MethodName := ⟨RX5, "seen", "(II)I"⟩
abbrev cX5_book : ByteArray := prog_1_method_29_code
def yX5_book : MethodName := ⟨RX5, "book", "(III)I"⟩
abbrev cX5_forget : ByteArray := prog_1_method_30_code
def yX5_forget : MethodName := ⟨RX5, "forget", "(I)I"⟩
abbrev cX5_when : ByteArray := prog_1_method_31_code
def yX5_when : MethodName := ⟨RX5, "when", "(I)I"⟩
abbrev cX5_ask : ByteArray := prog_1_method_32_code
def yX5_ask : MethodName := ⟨RX5, "ask", "()I"⟩
abbrev cX5_forged : ByteArray := prog_1_method_33_code
def yX5_forged : MethodName := ⟨RX5, "forged", "()I"⟩
abbrev cX5_chance : ByteArray := prog_1_method_34_code
def yX5_chance : MethodName := ⟨RX5, "chance", "(IIIII)J"⟩
abbrev cX5_year : ByteArray := prog_1_method_35_code
def yX5_year : MethodName := ⟨RX5, "year", "(III)I"⟩
abbrev cX5_sheet : ByteArray := prog_1_method_36_code
def yX5_sheet : MethodName := ⟨RX5, "sheet", "(III)I"⟩
abbrev cX5_lose : ByteArray := prog_1_method_37_code
def yX5_lose : MethodName := ⟨RX5, "lose", "(I)I"⟩
abbrev cX5_put : ByteArray := prog_1_method_38_code
def yX5_put : MethodName := ⟨RX5, "put", "(IIII)I"⟩
abbrev cX5_get : ByteArray := prog_1_method_39_code
def yX5_get : MethodName := ⟨RX5, "get", "(III)I"⟩
abbrev cX5_copy : ByteArray := prog_1_method_40_code
def yX5_copy : MethodName := ⟨RX5, "copy", "(IIIII)I"⟩
abbrev cX5_write : ByteArray := prog_1_method_41_code
def yX5_write : MethodName := ⟨RX5, "write", "(I)I"⟩
abbrev cX5_count : ByteArray := prog_1_method_42_code
def yX5_count : MethodName := ⟨RX5, "count", "(I)I"⟩
abbrev cX5_digest : ByteArray := prog_1_method_43_code
def yX5_digest : MethodName := ⟨RX5, "digest", "()J"⟩
abbrev cX5_mix : ByteArray := prog_1_method_44_code
def yX5_mix : MethodName := ⟨RX5, "mix", "(JJ)J"⟩
abbrev cX5_mixDeeds : ByteArray := prog_1_method_45_code
def yX5_mixDeeds : MethodName := ⟨RX5, "mixDeeds", "(J)J"⟩
abbrev cX5_mixDays : ByteArray := prog_1_method_46_code
def yX5_mixDays : MethodName := ⟨RX5, "mixDays", "(J)J"⟩
abbrev cX5_mixFines : ByteArray := prog_1_method_47_code
def yX5_mixFines : MethodName := ⟨RX5, "mixFines", "(J)J"⟩
abbrev cX5_mixPlans : ByteArray := prog_1_method_48_code
def yX5_mixPlans : MethodName := ⟨RX5, "mixPlans", "(J)J"⟩
abbrev cX5_within : ByteArray := prog_1_method_49_code
def yX5_within : MethodName := ⟨RX5, "within", "(III)Z"⟩
abbrev cX5_isDay : ByteArray := prog_1_method_50_code
def yX5_isDay : MethodName := ⟨RX5, "isDay", "(I)Z"⟩
abbrev cX5_isKing : ByteArray := prog_1_method_51_code
def yX5_isKing : MethodName := ⟨RX5, "isKing", "(I)Z"⟩
abbrev cX5_mayBeDeed : ByteArray := prog_1_method_52_code
def yX5_mayBeDeed : MethodName := ⟨RX5, "mayBeDeed", "(I)Z"⟩
abbrev cX5_isSheet : ByteArray := prog_1_method_53_code
def yX5_isSheet : MethodName := ⟨RX5, "isSheet", "(I)Z"⟩
abbrev cX5_isForm : ByteArray := prog_1_method_54_code
def yX5_isForm : MethodName := ⟨RX5, "isForm", "(I)Z"⟩
abbrev cX5_changed : ByteArray := prog_1_method_55_code
def yX5_changed : MethodName := ⟨RX5, "changed", "(I)I"⟩
abbrev cX5_laws : ByteArray := prog_1_method_56_code
def yX5_laws : MethodName := ⟨RX5, "laws", "()LTwinKings$Laws;"⟩
abbrev cX5_undoable : ByteArray := prog_1_method_57_code
def yX5_undoable : MethodName := ⟨RX5, "undoable", "(I)LTwinKings$Rows;"⟩
abbrev cX5_found : ByteArray := prog_1_method_58_code
def yX5_found : MethodName := ⟨RX5, "found", "(I)I"⟩
abbrev cX5_itemFinding : ByteArray := prog_1_method_59_code
def yX5_itemFinding : MethodName := ⟨RX5, "itemFinding", "(LTwinKings$Sheet;II)I"⟩
abbrev cX5_finesInCoin : ByteArray := prog_1_method_60_code
def yX5_finesInCoin : MethodName := ⟨RX5, "finesInCoin", "(LTwinKings$Laws;II)I"⟩
abbrev cX5_daysAsSeen : ByteArray := prog_1_method_61_code
def yX5_daysAsSeen : MethodName := ⟨RX5, "daysAsSeen", "()J"⟩
abbrev cX5_agreesWithBook : ByteArray := prog_1_method_62_code
def yX5_agreesWithBook : MethodName := ⟨RX5, "agreesWithBook", "(LTwinKings$Laws;)Z"⟩
abbrev cX5_bit : ByteArray := prog_1_method_63_code
def yX5_bit : MethodName := ⟨RX5, "bit", "(II)I"⟩
abbrev cX5_holdsDay : ByteArray := prog_1_method_64_code
def yX5_holdsDay : MethodName := ⟨RX5, "holdsDay", "(JI)Z"⟩
abbrev cX5_firstDay : ByteArray := prog_1_method_65_code
def yX5_firstDay : MethodName := ⟨RX5, "firstDay", "(JI)I"⟩
abbrev cX5_dayInOrder : ByteArray := prog_1_method_66_code
def yX5_dayInOrder : MethodName := ⟨RX5, "dayInOrder", "(JI)I"⟩
abbrev cX5_closedDays : ByteArray := prog_1_method_67_code
def yX5_closedDays : MethodName := ⟨RX5, "closedDays", "(JII)I"⟩
abbrev cX5_inLowestTerms : ByteArray := prog_1_method_68_code
def yX5_inLowestTerms : MethodName := ⟨RX5, "inLowestTerms", "(JJI)J"⟩
def RX6 : String := "TwinKingsModel"
def TX6 : u_T := fun k => match k with
  | 0 => ("TwinKingsModel", "text", "[I", true)
  | 1 => ("TwinKingsModel", "typed", "I", false)
  | 2 => ("TwinKingsModel", "deeds", "I", false)
  | 3 => ("TwinKingsModel", "fines", "[I", true)
  | 4 => ("TwinKingsModel", "elderFirst", "I", false)
  | 5 => ("TwinKingsModel", "ruleNow", "I", false)
  | 6 => ("TwinKingsModel", "courtNow", "I", false)
  | 7 => ("TwinKingsModel", "many", "[I", true)
  | 8 => ("TwinKingsModel", "sickKing", "[I", true)
  | 9 => ("TwinKingsModel", "sickDay", "[I", true)
  | 10 => ("TwinKingsModel", "leapDay", "[I", true)
  | 11 => ("TwinKingsModel", "edictDay", "[I", true)
  | 12 => ("TwinKingsModel", "edictDeed", "[I", true)
  | 13 => ("TwinKingsModel", "doneDay", "[I", true)
  | 14 => ("TwinKingsModel", "doneDeed", "[I", true)
  | 15 => ("TwinKingsModel", "doneDays", "[I", true)
  | 16 => ("TwinKingsModel", "taskDeed", "[I", true)
  | 17 => ("TwinKingsModel", "taskDays", "[I", true)
  | 18 => ("TwinKingsModel", "rulers", "[I", true)
  | 19 => ("TwinKingsModel", "says", "[I", true)
  | 20 => ("TwinKingsModel", "allowedOn", "[I", true)
  | 21 => ("TwinKingsModel", "without", "I", false)
  | 22 => ("TwinKingsModel", "wordsFrom", "I", false)
  | 23 => ("TwinKingsModel", "wordsMany", "I", false)
  | 24 => ("TwinKingsModel", "wordOf", "[I", true)
  | 25 => ("TwinKingsModel", "begun", "[I", true)
  | 26 => ("TwinKingsModel", "order", "[I", true)
  | 27 => ("TwinKingsModel", "bestOrder", "[I", true)
  | 28 => ("TwinKingsModel", "outs", "[I", true)
  | 29 => ("TwinKingsModel", "seens", "I", false)
  | 30 => ("TwinKingsModel", "seenDeed", "[I", true)
  | 31 => ("TwinKingsModel", "seenIs", "[I", true)
  | 32 => ("TwinKingsModel", "books", "I", false)
  | 33 => ("TwinKingsModel", "bookDay", "[I", true)
  | 34 => ("TwinKingsModel", "bookDeed", "[I", true)
  | 35 => ("TwinKingsModel", "bookIs", "[I", true)
  | 36 => ("TwinKingsModel", "isThere", "[Z", true)
  | 37 => ("TwinKingsModel", "forms", "[I", true)
  | 38 => ("TwinKingsModel", "sizes", "[I", true)
  | 39 => ("TwinKingsModel", "items", "[I", true)
  | 40 => ("TwinKingsModel", "moved", "[I", true)
  | _ => ("TwinKingsModel", "finding", "I", false)
def tyX6 : Nat → FieldType := fun k => match k with
  | 0 => .array .int
  | 1 => .int
  | 2 => .int
  | 3 => .array .int
  | 4 => .int
  | 5 => .int
  | 6 => .int
  | 7 => .array .int
  | 8 => .array .int
  | 9 => .array .int
  | 10 => .array .int
  | 11 => .array .int
  | 12 => .array .int
  | 13 => .array .int
  | 14 => .array .int
  | 15 => .array .int
  | 16 => .array .int
  | 17 => .array .int
  | 18 => .array .int
  | 19 => .array .int
  | 20 => .array .int
  | 21 => .int
  | 22 => .int
  | 23 => .int
  | 24 => .array .int
  | 25 => .array .int
  | 26 => .array .int
  | 27 => .array .int
  | 28 => .array .int
  | 29 => .int
  | 30 => .array .int
  | 31 => .array .int
  | 32 => .int
  | 33 => .array .int
  | 34 => .array .int
  | 35 => .array .int
  | 36 => .array .boolean
  | 37 => .array .int
  | 38 => .array .int
  | 39 => .array .int
  | 40 => .array .int
  | _ => .int
abbrev wsX60 : List Cond := u_ws RX6 TX6 42
theorem nmX6 : ∀ a, a < 42 → ∀ b, b < 42 → a ≠ b → (TX6 a).2.1 ≠ (TX6 b).2.1 := by decide +kernel
theorem tyX6_ok : ∀ k, k < 42 → parseFieldDescriptor (TX6 k).2.2.1 = some (tyX6 k) := by decide +kernel
abbrev cX6_init : ByteArray := prog_8_method_1_code
def yX6_init : MethodName := ⟨RX6, "<init>", "()V"⟩
abbrev cX6_in : ByteArray := prog_8_method_3_code
def yX6_in : MethodName := ⟨RX6, "in", "(III)Z"⟩
abbrev cX6_isIn : ByteArray := prog_8_method_4_code
def yX6_isIn : MethodName := ⟨RX6, "isIn", "(II)Z"⟩
abbrev cX6_ones : ByteArray := prog_8_method_5_code
def yX6_ones : MethodName := ⟨RX6, "ones", "(I)I"⟩
abbrev cX6_no : ByteArray := prog_8_method_6_code
def yX6_no : MethodName := ⟨RX6, "no", "(I)J"⟩
abbrev cX6_lowest : ByteArray := prog_8_method_7_code
def yX6_lowest : MethodName := ⟨RX6, "lowest", "(JJI)J"⟩
abbrev cX6_isDay : ByteArray := prog_8_method_8_code
def yX6_isDay : MethodName := ⟨RX6, "isDay", "(I)Z"⟩
abbrev cX6_isEight : ByteArray := prog_8_method_9_code
def yX6_isEight : MethodName := ⟨RX6, "isEight", "(I)Z"⟩
abbrev cX6_isTwo : ByteArray := prog_8_method_10_code
def yX6_isTwo : MethodName := ⟨RX6, "isTwo", "(I)Z"⟩
abbrev cX6_type : ByteArray := prog_8_method_11_code
def yX6_type : MethodName := ⟨RX6, "type", "(I)I"⟩
abbrev cX6_wipe : ByteArray := prog_8_method_12_code
def yX6_wipe : MethodName := ⟨RX6, "wipe", "()I"⟩
abbrev cX6_undo : ByteArray := prog_8_method_13_code
def yX6_undo : MethodName := ⟨RX6, "undo", "()I"⟩
abbrev cX6_faultNow : ByteArray := prog_8_method_14_code
def yX6_faultNow : MethodName := ⟨RX6, "faultNow", "()I"⟩
abbrev cX6_fault : ByteArray := prog_8_method_15_code
def yX6_fault : MethodName := ⟨RX6, "fault", "()I"⟩
abbrev cX6_reads : ByteArray := prog_8_method_16_code
def yX6_reads : MethodName := ⟨RX6, "reads", "()V"⟩
abbrev cX6_isDeed : ByteArray := prog_8_method_17_code
def yX6_isDeed : MethodName := ⟨RX6, "isDeed", "(I)Z"⟩
abbrev cX6_allDeeds : ByteArray := prog_8_method_18_code
def yX6_allDeeds : MethodName := ⟨RX6, "allDeeds", "()I"⟩
abbrev cX6_youngerFirst : ByteArray := prog_8_method_19_code
def yX6_youngerFirst : MethodName := ⟨RX6, "youngerFirst", "()I"⟩
abbrev cX6_deedOf : ByteArray := prog_8_method_20_code
def yX6_deedOf : MethodName := ⟨RX6, "deedOf", "(II)I"⟩
abbrev cX6_deed : ByteArray := prog_8_method_21_code
def yX6_deed : MethodName := ⟨RX6, "deed", "(II)I"⟩
abbrev cX6_set : ByteArray := prog_8_method_22_code
def yX6_set : MethodName := ⟨RX6, "set", "(II)I"⟩
abbrev cX6_sick : ByteArray := prog_8_method_23_code
def yX6_sick : MethodName := ⟨RX6, "sick", "(II)I"⟩
abbrev cX6_leap : ByteArray := prog_8_method_24_code
def yX6_leap : MethodName := ⟨RX6, "leap", "(I)I"⟩
abbrev cX6_edict : ByteArray := prog_8_method_25_code
def yX6_edict : MethodName := ⟨RX6, "edict", "(II)I"⟩
abbrev cX6_does : ByteArray := prog_8_method_26_code
def yX6_does : MethodName := ⟨RX6, "does", "(III)I"⟩
abbrev cX6_task : ByteArray := prog_8_method_27_code
def yX6_task : MethodName := ⟨RX6, "task", "(II)I"⟩
abbrev cX6_back : ByteArray := prog_8_method_28_code
def yX6_back : MethodName := ⟨RX6, "back", "(I)I"⟩
abbrev cX6_read : ByteArray := prog_8_method_29_code
def yX6_read : MethodName := ⟨RX6, "read", "(I)I"⟩
abbrev cX6_isSick : ByteArray := prog_8_method_30_code
def yX6_isSick : MethodName := ⟨RX6, "isSick", "(II)Z"⟩
abbrev cX6_isLeap : ByteArray := prog_8_method_31_code
def yX6_isLeap : MethodName := ⟨RX6, "isLeap", "(I)Z"⟩
abbrev cX6_rulesOf : ByteArray := prog_8_method_32_code
def yX6_rulesOf : MethodName := ⟨RX6, "rulesOf", "(I)I"⟩
abbrev cX6_rules : ByteArray := prog_8_method_33_code
def yX6_rules : MethodName := ⟨RX6, "rules", "(I)I"⟩
abbrev cX6_asTold : ByteArray := prog_8_method_34_code
def yX6_asTold : MethodName := ⟨RX6, "asTold", "()V"⟩
abbrev cX6_lays : ByteArray := prog_8_method_35_code
def yX6_lays : MethodName := ⟨RX6, "lays", "()V"⟩
abbrev cX6_laysTold : ByteArray := prog_8_method_36_code
def yX6_laysTold : MethodName := ⟨RX6, "laysTold", "()V"⟩
abbrev cX6_allowsOf : ByteArray := prog_8_method_37_code
def yX6_allowsOf : MethodName := ⟨RX6, "allowsOf", "(II)I"⟩
abbrev cX6_allows : ByteArray := prog_8_method_38_code
def yX6_allows : MethodName := ⟨RX6, "allows", "(II)I"⟩
abbrev cX6_allowedOf : ByteArray := prog_8_method_39_code
def yX6_allowedOf : MethodName := ⟨RX6, "allowedOf", "(I)I"⟩
abbrev cX6_allowed : ByteArray := prog_8_method_40_code
def yX6_allowed : MethodName := ⟨RX6, "allowed", "(I)I"⟩
abbrev cX6_neverNow : ByteArray := prog_8_method_41_code
def yX6_neverNow : MethodName := ⟨RX6, "neverNow", "()I"⟩
abbrev cX6_never : ByteArray := prog_8_method_42_code
def yX6_never : MethodName := ⟨RX6, "never", "()I"⟩
abbrev cX6_alikeNow : ByteArray := prog_8_method_43_code
def yX6_alikeNow : MethodName := ⟨RX6, "alikeNow", "()I"⟩
abbrev cX6_alike : ByteArray := prog_8_method_44_code
def yX6_alike : MethodName := ⟨RX6, "alike", "()I"⟩
abbrev cX6_crossingOf : ByteArray := prog_8_method_45_code
def yX6_crossingOf : MethodName := ⟨RX6, "crossingOf", "(I)I"⟩
abbrev cX6_crossing : ByteArray := prog_8_method_46_code
def yX6_crossing : MethodName := ⟨RX6, "crossing", "(I)I"⟩
abbrev cX6_finedOn : ByteArray := prog_8_method_47_code
def yX6_finedOn : MethodName := ⟨RX6, "finedOn", "(II)I"⟩
abbrev cX6_finedOf : ByteArray := prog_8_method_48_code
def yX6_finedOf : MethodName := ⟨RX6, "finedOf", "(I)I"⟩
abbrev cX6_fined : ByteArray := prog_8_method_49_code
def yX6_fined : MethodName := ⟨RX6, "fined", "(I)I"⟩
abbrev cX6_coinsOf : ByteArray := prog_8_method_50_code
def yX6_coinsOf : MethodName := ⟨RX6, "coinsOf", "(I)I"⟩
abbrev cX6_coins : ByteArray := prog_8_method_51_code
def yX6_coins : MethodName := ⟨RX6, "coins", "(I)I"⟩
abbrev cX6_firstFor : ByteArray := prog_8_method_52_code
def yX6_firstFor : MethodName := ⟨RX6, "firstFor", "(III)I"⟩
abbrev cX6_soonestOf : ByteArray := prog_8_method_53_code
def yX6_soonestOf : MethodName := ⟨RX6, "soonestOf", "(III)I"⟩
abbrev cX6_soonest : ByteArray := prog_8_method_54_code
def yX6_soonest : MethodName := ⟨RX6, "soonest", "(III)I"⟩
abbrev cX6_cheapestOf : ByteArray := prog_8_method_55_code
def yX6_cheapestOf : MethodName := ⟨RX6, "cheapestOf", "(IIII)I"⟩
abbrev cX6_cheapest : ByteArray := prog_8_method_56_code
def yX6_cheapest : MethodName := ⟨RX6, "cheapest", "(IIII)I"⟩
abbrev cX6_finishBy : ByteArray := prog_8_method_57_code
def yX6_finishBy : MethodName := ⟨RX6, "finishBy", "(I)I"⟩
abbrev cX6_finishOf : ByteArray := prog_8_method_58_code
def yX6_finishOf : MethodName := ⟨RX6, "finishOf", "(II)I"⟩
abbrev cX6_finish : ByteArray := prog_8_method_59_code
def yX6_finish : MethodName := ⟨RX6, "finish", "(II)I"⟩
abbrev cX6_planBy : ByteArray := prog_8_method_60_code
def yX6_planBy : MethodName := ⟨RX6, "planBy", "(I)I"⟩
abbrev cX6_planOf : ByteArray := prog_8_method_61_code
def yX6_planOf : MethodName := ⟨RX6, "planOf", "(II)I"⟩
abbrev cX6_plan : ByteArray := prog_8_method_62_code
def yX6_plan : MethodName := ⟨RX6, "plan", "(II)I"⟩
abbrev cX6_isWord : ByteArray := prog_8_method_63_code
def yX6_isWord : MethodName := ⟨RX6, "isWord", "(II)Z"⟩
abbrev cX6_laysOuts : ByteArray := prog_8_method_64_code
def yX6_laysOuts : MethodName := ⟨RX6, "laysOuts", "(III)V"⟩
abbrev cX6_bestOut : ByteArray := prog_8_method_65_code
def yX6_bestOut : MethodName := ⟨RX6, "bestOut", "(II)I"⟩
abbrev cX6_wordsOf : ByteArray := prog_8_method_66_code
def yX6_wordsOf : MethodName := ⟨RX6, "wordsOf", "(III)I"⟩
abbrev cX6_words : ByteArray := prog_8_method_67_code
def yX6_words : MethodName := ⟨RX6, "words", "(III)I"⟩
abbrev cX6_seen : ByteArray := prog_8_method_68_code
def yX6_seen : MethodName := ⟨RX6, "seen", "(II)I"⟩
abbrev cX6_book : ByteArray := prog_8_method_69_code
def yX6_book : MethodName := ⟨RX6, "book", "(III)I"⟩
abbrev cX6_forget : ByteArray := prog_8_method_70_code
def yX6_forget : MethodName := ⟨RX6, "forget", "(I)I"⟩
abbrev cX6_isSo : ByteArray := prog_8_method_71_code
def yX6_isSo : MethodName := ⟨RX6, "isSo", "(III)Z"⟩
abbrev cX6_isWhen : ByteArray := prog_8_method_72_code
def yX6_isWhen : MethodName := ⟨RX6, "isWhen", "(I)Z"⟩
abbrev cX6_whenOf : ByteArray := prog_8_method_73_code
def yX6_whenOf : MethodName := ⟨RX6, "whenOf", "(I)I"⟩
abbrev cX6_when : ByteArray := prog_8_method_74_code
def yX6_when : MethodName := ⟨RX6, "when", "(I)I"⟩
abbrev cX6_askNow : ByteArray := prog_8_method_75_code
def yX6_askNow : MethodName := ⟨RX6, "askNow", "()I"⟩
abbrev cX6_ask : ByteArray := prog_8_method_76_code
def yX6_ask : MethodName := ⟨RX6, "ask", "()I"⟩
abbrev cX6_forgedNow : ByteArray := prog_8_method_77_code
def yX6_forgedNow : MethodName := ⟨RX6, "forgedNow", "()I"⟩
abbrev cX6_forged : ByteArray := prog_8_method_78_code
def yX6_forged : MethodName := ⟨RX6, "forged", "()I"⟩
abbrev cX6_chanceOn : ByteArray := prog_8_method_79_code
def yX6_chanceOn : MethodName := ⟨RX6, "chanceOn", "(III)I"⟩
abbrev cX6_chanceOf : ByteArray := prog_8_method_80_code
def yX6_chanceOf : MethodName := ⟨RX6, "chanceOf", "(IIIII)J"⟩
abbrev cX6_chance : ByteArray := prog_8_method_81_code
def yX6_chance : MethodName := ⟨RX6, "chance", "(IIIII)J"⟩
abbrev cX6_yearOf : ByteArray := prog_8_method_82_code
def yX6_yearOf : MethodName := ⟨RX6, "yearOf", "(III)I"⟩
abbrev cX6_year : ByteArray := prog_8_method_83_code
def yX6_year : MethodName := ⟨RX6, "year", "(III)I"⟩
abbrev cX6_meets : ByteArray := prog_8_method_84_code
def yX6_meets : MethodName := ⟨RX6, "meets", "(I)I"⟩
abbrev cX6_isSheet : ByteArray := prog_8_method_85_code
def yX6_isSheet : MethodName := ⟨RX6, "isSheet", "(I)Z"⟩
abbrev cX6_sheet : ByteArray := prog_8_method_86_code
def yX6_sheet : MethodName := ⟨RX6, "sheet", "(III)I"⟩
abbrev cX6_lose : ByteArray := prog_8_method_87_code
def yX6_lose : MethodName := ⟨RX6, "lose", "(I)I"⟩
abbrev cX6_lacks : ByteArray := prog_8_method_88_code
def yX6_lacks : MethodName := ⟨RX6, "lacks", "(III)I"⟩
abbrev cX6_keep : ByteArray := prog_8_method_89_code
def yX6_keep : MethodName := ⟨RX6, "keep", "(III)V"⟩
abbrev cX6_put : ByteArray := prog_8_method_90_code
def yX6_put : MethodName := ⟨RX6, "put", "(IIII)I"⟩
abbrev cX6_get : ByteArray := prog_8_method_91_code
def yX6_get : MethodName := ⟨RX6, "get", "(III)I"⟩
abbrev cX6_copy : ByteArray := prog_8_method_92_code
def yX6_copy : MethodName := ⟨RX6, "copy", "(IIIII)I"⟩
abbrev cX6_write : ByteArray := prog_8_method_93_code
def yX6_write : MethodName := ⟨RX6, "write", "(I)I"⟩
abbrev cX6_count : ByteArray := prog_8_method_94_code
def yX6_count : MethodName := ⟨RX6, "count", "(I)I"⟩
abbrev cX6_deedDigest : ByteArray := prog_8_method_95_code
def yX6_deedDigest : MethodName := ⟨RX6, "deedDigest", "(JI)J"⟩
abbrev cX6_dayDigest : ByteArray := prog_8_method_96_code
def yX6_dayDigest : MethodName := ⟨RX6, "dayDigest", "(JI)J"⟩
abbrev cX6_digest : ByteArray := prog_8_method_97_code
def yX6_digest : MethodName := ⟨RX6, "digest", "()J"⟩
def RJ6 : String := "java/lang/Integer"
def TJ6 : u_T := fun k => match k with
  | _ => ("", "", "", false)
def tyJ6 : Nat → FieldType := fun k => match k with
  | _ => .int
abbrev wsJ60 : List Cond := u_ws RJ6 TJ6 0
theorem nmJ6 : ∀ a, a < 0 → ∀ b, b < 0 → a ≠ b → (TJ6 a).2.1 ≠ (TJ6 b).2.1 := by decide +kernel
theorem tyJ6_ok : ∀ k, k < 0 → parseFieldDescriptor (TJ6 k).2.2.1 = some (tyJ6 k) := by decide +kernel
abbrev cJ6_bitCount_0f7a4 : ByteArray := prog_9_method_49_code
def yJ6_bitCount_0f7a4 : MethodName := ⟨RJ6, "bitCount", "(I)I"⟩
def RJ13 : String := "java/lang/Long"
def TJ13 : u_T := fun k => match k with
  | _ => ("", "", "", false)
def tyJ13 : Nat → FieldType := fun k => match k with
  | _ => .int
abbrev wsJ130 : List Cond := u_ws RJ13 TJ13 0
theorem nmJ13 : ∀ a, a < 0 → ∀ b, b < 0 → a ≠ b → (TJ13 a).2.1 ≠ (TJ13 b).2.1 := by decide +kernel
theorem tyJ13_ok : ∀ k, k < 0 → parseFieldDescriptor (TJ13 k).2.2.1 = some (tyJ13 k) := by decide +kernel
abbrev cJ13_bitCount_95d88 : ByteArray := prog_10_method_50_code
def yJ13_bitCount_95d88 : MethodName := ⟨RJ13, "bitCount", "(J)I"⟩
def RJ9 : String := "java/lang/Math"
def TJ9 : u_T := fun k => match k with
  | _ => ("", "", "", false)
def tyJ9 : Nat → FieldType := fun k => match k with
  | _ => .int
abbrev wsJ90 : List Cond := u_ws RJ9 TJ9 0
theorem nmJ9 : ∀ a, a < 0 → ∀ b, b < 0 → a ≠ b → (TJ9 a).2.1 ≠ (TJ9 b).2.1 := by decide +kernel
theorem tyJ9_ok : ∀ k, k < 0 → parseFieldDescriptor (TJ9 k).2.2.1 = some (tyJ9 k) := by decide +kernel
abbrev cJ9_max_7cf53 : ByteArray := prog_11_method_65_code
def yJ9_max_7cf53 : MethodName := ⟨RJ9, "max", "(II)I"⟩
abbrev cJ9_min_7cf53 : ByteArray := prog_11_method_69_code
def yJ9_min_7cf53 : MethodName := ⟨RJ9, "min", "(II)I"⟩
def RJ10 : String := "java/lang/System"
def TJ10 : u_T := fun k => match k with
  | _ => ("", "", "", false)
def tyJ10 : Nat → FieldType := fun k => match k with
  | _ => .int
abbrev wsJ100 : List Cond := u_ws RJ10 TJ10 0
theorem nmJ10 : ∀ a, a < 0 → ∀ b, b < 0 → a ≠ b → (TJ10 a).2.1 ≠ (TJ10 b).2.1 := by decide +kernel
theorem tyJ10_ok : ∀ k, k < 0 → parseFieldDescriptor (TJ10 k).2.2.1 = some (tyJ10 k) := by decide +kernel
def RL : String := "TwinKingsLaw"
abbrev cL_law : ByteArray := code
def yL_law : MethodName := ⟨RL, "law", "([I)Z"⟩
abbrev vwCl : List vw_C := [(RX0, TX0, 6), (RX1, TX1, 6), (RX2, TX2, 7), (RX3, TX3, 5), (RX4, TX4, 3), (RX5, TX5, 16), (RX6, TX6, 42)]
end
section
theorem dX0_init_0 : decode cX0_init 0 = .ok (.aload_n 0, 1) := by decide +kernel
theorem dX0_init_1 : decode cX0_init 1 = .ok (.invokespecial 3, 3) := by decide +kernel
theorem dX0_init_4 : decode cX0_init 4 = .ok (.aload_n 0, 1) := by decide +kernel
theorem dX0_init_5 : decode cX0_init 5 = .ok (.bipush 23, 2) := by decide +kernel
theorem dX0_init_7 : decode cX0_init 7 = .ok (.newarray .int, 2) := by decide +kernel
theorem dX0_init_9 : decode cX0_init 9 = .ok (.putfield 11, 3) := by decide +kernel
theorem dX0_init_12 : decode cX0_init 12 = .ok (.aload_n 0, 1) := by decide +kernel
theorem dX0_init_13 : decode cX0_init 13 = .ok (.bipush 8, 2) := by decide +kernel
theorem dX0_init_15 : decode cX0_init 15 = .ok (.newarray .int, 2) := by decide +kernel
theorem dX0_init_17 : decode cX0_init 17 = .ok (.putfield 15, 3) := by decide +kernel
theorem dX0_init_20 : decode cX0_init 20 = .ok (.aload_n 0, 1) := by decide +kernel
theorem dX0_init_21 : decode cX0_init 21 = .ok (.iconst (-1), 1) := by decide +kernel
theorem dX0_init_22 : decode cX0_init 22 = .ok (.putfield 18, 3) := by decide +kernel
theorem dX0_init_25 : decode cX0_init 25 = .ok (.return_, 1) := by decide +kernel
theorem dX0_length_0 : decode cX0_length 0 = .ok (.aload_n 0, 1) := by decide +kernel
theorem dX0_length_1 : decode cX0_length 1 = .ok (.getfield 22, 3) := by decide +kernel
theorem dX0_length_4 : decode cX0_length 4 = .ok (.ireturn, 1) := by decide +kernel
theorem dX0_number_0 : decode cX0_number 0 = .ok (.aload_n 0, 1) := by decide +kernel
theorem dX0_number_1 : decode cX0_number 1 = .ok (.getfield 25, 3) := by decide +kernel
theorem dX0_number_4 : decode cX0_number 4 = .ok (.ireturn, 1) := by decide +kernel
theorem dX0_faultPlace_0 : decode cX0_faultPlace 0 = .ok (.aload_n 0, 1) := by decide +kernel
theorem dX0_faultPlace_1 : decode cX0_faultPlace 1 = .ok (.getfield 18, 3) := by decide +kernel
theorem dX0_faultPlace_4 : decode cX0_faultPlace 4 = .ok (.ireturn, 1) := by decide +kernel
theorem dX0_has_0 : decode cX0_has 0 = .ok (.iload_n 1, 1) := by decide +kernel
theorem dX0_has_1 : decode cX0_has 1 = .ok (.iconst 0, 1) := by decide +kernel
theorem dX0_has_2 : decode cX0_has 2 = .ok (.aload_n 0, 1) := by decide +kernel
theorem dX0_has_3 : decode cX0_has 3 = .ok (.getfield 25, 3) := by decide +kernel
theorem dX0_has_6 : decode cX0_has 6 = .ok (.iconst 1, 1) := by decide +kernel
theorem dX0_has_7 : decode cX0_has 7 = .ok (.isub, 1) := by decide +kernel
theorem dX0_has_8 : decode cX0_has 8 = .ok (.invokestatic 28, 3) := by decide +kernel
theorem dX0_has_11 : decode cX0_has 11 = .ok (.ireturn, 1) := by decide +kernel
theorem dX0_fineOf_0 : decode cX0_fineOf 0 = .ok (.aload_n 0, 1) := by decide +kernel
theorem dX0_fineOf_1 : decode cX0_fineOf 1 = .ok (.iload_n 1, 1) := by decide +kernel
theorem dX0_fineOf_2 : decode cX0_fineOf 2 = .ok (.invokevirtual 32, 3) := by decide +kernel
theorem dX0_fineOf_5 : decode cX0_fineOf 5 = .ok (.ifCond .eq 12, 3) := by decide +kernel
theorem dX0_fineOf_8 : decode cX0_fineOf 8 = .ok (.aload_n 0, 1) := by decide +kernel
theorem dX0_fineOf_9 : decode cX0_fineOf 9 = .ok (.getfield 15, 3) := by decide +kernel
theorem dX0_fineOf_12 : decode cX0_fineOf 12 = .ok (.iload_n 1, 1) := by decide +kernel
theorem dX0_fineOf_13 : decode cX0_fineOf 13 = .ok (.iaload, 1) := by decide +kernel
theorem dX0_fineOf_14 : decode cX0_fineOf 14 = .ok (.goto 4, 3) := by decide +kernel
theorem dX0_fineOf_17 : decode cX0_fineOf 17 = .ok (.iconst 0, 1) := by decide +kernel
theorem dX0_fineOf_18 : decode cX0_fineOf 18 = .ok (.ireturn, 1) := by decide +kernel
theorem dX0_elderBits_0 : decode cX0_elderBits 0 = .ok (.aload_n 0, 1) := by decide +kernel
theorem dX0_elderBits_1 : decode cX0_elderBits 1 = .ok (.getfield 36, 3) := by decide +kernel
theorem dX0_elderBits_4 : decode cX0_elderBits 4 = .ok (.ireturn, 1) := by decide +kernel
theorem dX0_youngerBits_0 : decode cX0_youngerBits 0 = .ok (.iconst 0, 1) := by decide +kernel
theorem dX0_youngerBits_1 : decode cX0_youngerBits 1 = .ok (.istore_n 2, 1) := by decide +kernel
theorem dX0_youngerBits_2 : decode cX0_youngerBits 2 = .ok (.iconst 0, 1) := by decide +kernel
theorem dX0_youngerBits_3 : decode cX0_youngerBits 3 = .ok (.istore_n 3, 1) := by decide +kernel
theorem dX0_youngerBits_4 : decode cX0_youngerBits 4 = .ok (.iload_n 3, 1) := by decide +kernel
theorem dX0_youngerBits_5 : decode cX0_youngerBits 5 = .ok (.aload_n 0, 1) := by decide +kernel
theorem dX0_youngerBits_6 : decode cX0_youngerBits 6 = .ok (.getfield 25, 3) := by decide +kernel
theorem dX0_youngerBits_9 : decode cX0_youngerBits 9 = .ok (.if_icmp .ge 20, 3) := by decide +kernel
theorem dX0_youngerBits_12 : decode cX0_youngerBits 12 = .ok (.iload_n 2, 1) := by decide +kernel
theorem dX0_youngerBits_13 : decode cX0_youngerBits 13 = .ok (.aload_n 0, 1) := by decide +kernel
theorem dX0_youngerBits_14 : decode cX0_youngerBits 14 = .ok (.iload_n 3, 1) := by decide +kernel
theorem dX0_youngerBits_15 : decode cX0_youngerBits 15 = .ok (.iload_n 1, 1) := by decide +kernel
theorem dX0_youngerBits_16 : decode cX0_youngerBits 16 = .ok (.invokevirtual 39, 3) := by decide +kernel
theorem dX0_youngerBits_19 : decode cX0_youngerBits 19 = .ok (.iload_n 3, 1) := by decide +kernel
theorem dX0_youngerBits_20 : decode cX0_youngerBits 20 = .ok (.ishl, 1) := by decide +kernel
theorem dX0_youngerBits_21 : decode cX0_youngerBits 21 = .ok (.ior, 1) := by decide +kernel
theorem dX0_youngerBits_22 : decode cX0_youngerBits 22 = .ok (.istore_n 2, 1) := by decide +kernel
theorem dX0_youngerBits_23 : decode cX0_youngerBits 23 = .ok (.iinc 3 1, 3) := by decide +kernel
theorem dX0_youngerBits_26 : decode cX0_youngerBits 26 = .ok (.goto (-22), 3) := by decide +kernel
theorem dX0_youngerBits_29 : decode cX0_youngerBits 29 = .ok (.iload_n 2, 1) := by decide +kernel
theorem dX0_youngerBits_30 : decode cX0_youngerBits 30 = .ok (.ireturn, 1) := by decide +kernel
theorem dX0_append_0 : decode cX0_append 0 = .ok (.aload_n 0, 1) := by decide +kernel
theorem dX0_append_1 : decode cX0_append 1 = .ok (.getfield 22, 3) := by decide +kernel
theorem dX0_append_4 : decode cX0_append 4 = .ok (.bipush 23, 2) := by decide +kernel
theorem dX0_append_6 : decode cX0_append 6 = .ok (.if_icmp .lt 6, 3) := by decide +kernel
theorem dX0_append_9 : decode cX0_append 9 = .ok (.bipush (-4), 2) := by decide +kernel
theorem dX0_append_11 : decode cX0_append 11 = .ok (.ireturn, 1) := by decide +kernel
theorem dX0_append_12 : decode cX0_append 12 = .ok (.aload_n 0, 1) := by decide +kernel
theorem dX0_append_13 : decode cX0_append 13 = .ok (.getfield 11, 3) := by decide +kernel
theorem dX0_append_16 : decode cX0_append 16 = .ok (.aload_n 0, 1) := by decide +kernel
theorem dX0_append_17 : decode cX0_append 17 = .ok (.getfield 22, 3) := by decide +kernel
theorem dX0_append_20 : decode cX0_append 20 = .ok (.iload_n 1, 1) := by decide +kernel
theorem dX0_append_21 : decode cX0_append 21 = .ok (.iastore, 1) := by decide +kernel
theorem dX0_append_22 : decode cX0_append 22 = .ok (.aload_n 0, 1) := by decide +kernel
theorem dX0_append_23 : decode cX0_append 23 = .ok (.dup, 1) := by decide +kernel
theorem dX0_append_24 : decode cX0_append 24 = .ok (.getfield 22, 3) := by decide +kernel
theorem dX0_append_27 : decode cX0_append 27 = .ok (.iconst 1, 1) := by decide +kernel
theorem dX0_append_28 : decode cX0_append 28 = .ok (.iadd, 1) := by decide +kernel
theorem dX0_append_29 : decode cX0_append 29 = .ok (.putfield 22, 3) := by decide +kernel
theorem dX0_append_32 : decode cX0_append 32 = .ok (.aload_n 0, 1) := by decide +kernel
theorem dX0_append_33 : decode cX0_append 33 = .ok (.invokevirtual 43, 3) := by decide +kernel
theorem dX0_append_36 : decode cX0_append 36 = .ok (.aload_n 0, 1) := by decide +kernel
theorem dX0_append_37 : decode cX0_append 37 = .ok (.getfield 22, 3) := by decide +kernel
theorem dX0_append_40 : decode cX0_append 40 = .ok (.ireturn, 1) := by decide +kernel
theorem dX0_dropLast_0 : decode cX0_dropLast 0 = .ok (.aload_n 0, 1) := by decide +kernel
theorem dX0_dropLast_1 : decode cX0_dropLast 1 = .ok (.getfield 22, 3) := by decide +kernel
theorem dX0_dropLast_4 : decode cX0_dropLast 4 = .ok (.ifCond .ne 6, 3) := by decide +kernel
theorem dX0_dropLast_7 : decode cX0_dropLast 7 = .ok (.bipush (-3), 2) := by decide +kernel
theorem dX0_dropLast_9 : decode cX0_dropLast 9 = .ok (.ireturn, 1) := by decide +kernel
theorem dX0_dropLast_10 : decode cX0_dropLast 10 = .ok (.aload_n 0, 1) := by decide +kernel
theorem dX0_dropLast_11 : decode cX0_dropLast 11 = .ok (.dup, 1) := by decide +kernel
theorem dX0_dropLast_12 : decode cX0_dropLast 12 = .ok (.getfield 22, 3) := by decide +kernel
theorem dX0_dropLast_15 : decode cX0_dropLast 15 = .ok (.iconst 1, 1) := by decide +kernel
theorem dX0_dropLast_16 : decode cX0_dropLast 16 = .ok (.isub, 1) := by decide +kernel
theorem dX0_dropLast_17 : decode cX0_dropLast 17 = .ok (.putfield 22, 3) := by decide +kernel
theorem dX0_dropLast_20 : decode cX0_dropLast 20 = .ok (.aload_n 0, 1) := by decide +kernel
theorem dX0_dropLast_21 : decode cX0_dropLast 21 = .ok (.invokevirtual 43, 3) := by decide +kernel
theorem dX0_dropLast_24 : decode cX0_dropLast 24 = .ok (.aload_n 0, 1) := by decide +kernel
theorem dX0_dropLast_25 : decode cX0_dropLast 25 = .ok (.getfield 22, 3) := by decide +kernel
theorem dX0_dropLast_28 : decode cX0_dropLast 28 = .ok (.ireturn, 1) := by decide +kernel
theorem dX0_clear_0 : decode cX0_clear 0 = .ok (.aload_n 0, 1) := by decide +kernel
theorem dX0_clear_1 : decode cX0_clear 1 = .ok (.getfield 22, 3) := by decide +kernel
theorem dX0_clear_4 : decode cX0_clear 4 = .ok (.istore_n 1, 1) := by decide +kernel
theorem dX0_clear_5 : decode cX0_clear 5 = .ok (.aload_n 0, 1) := by decide +kernel
theorem dX0_clear_6 : decode cX0_clear 6 = .ok (.iconst 0, 1) := by decide +kernel
theorem dX0_clear_7 : decode cX0_clear 7 = .ok (.putfield 22, 3) := by decide +kernel
theorem dX0_clear_10 : decode cX0_clear 10 = .ok (.aload_n 0, 1) := by decide +kernel
theorem dX0_clear_11 : decode cX0_clear 11 = .ok (.invokevirtual 43, 3) := by decide +kernel
theorem dX0_clear_14 : decode cX0_clear 14 = .ok (.iload_n 1, 1) := by decide +kernel
theorem dX0_clear_15 : decode cX0_clear 15 = .ok (.ireturn, 1) := by decide +kernel
theorem dX0_youngerSays_0 : decode cX0_youngerSays 0 = .ok (.iload_n 2, 1) := by decide +kernel
theorem dX0_youngerSays_1 : decode cX0_youngerSays 1 = .ok (.iconst 2, 1) := by decide +kernel
theorem dX0_youngerSays_2 : decode cX0_youngerSays 2 = .ok (.if_icmp .ne 28, 3) := by decide +kernel
theorem dX0_youngerSays_5 : decode cX0_youngerSays 5 = .ok (.aload_n 0, 1) := by decide +kernel
theorem dX0_youngerSays_6 : decode cX0_youngerSays 6 = .ok (.getfield 36, 3) := by decide +kernel
theorem dX0_youngerSays_9 : decode cX0_youngerSays 9 = .ok (.iload_n 1, 1) := by decide +kernel
theorem dX0_youngerSays_10 : decode cX0_youngerSays 10 = .ok (.iconst 1, 1) := by decide +kernel
theorem dX0_youngerSays_11 : decode cX0_youngerSays 11 = .ok (.iadd, 1) := by decide +kernel
theorem dX0_youngerSays_12 : decode cX0_youngerSays 12 = .ok (.aload_n 0, 1) := by decide +kernel
theorem dX0_youngerSays_13 : decode cX0_youngerSays 13 = .ok (.getfield 25, 3) := by decide +kernel
theorem dX0_youngerSays_16 : decode cX0_youngerSays 16 = .ok (.if_icmp .ge 9, 3) := by decide +kernel
theorem dX0_youngerSays_19 : decode cX0_youngerSays 19 = .ok (.iload_n 1, 1) := by decide +kernel
theorem dX0_youngerSays_20 : decode cX0_youngerSays 20 = .ok (.iconst 1, 1) := by decide +kernel
theorem dX0_youngerSays_21 : decode cX0_youngerSays 21 = .ok (.iadd, 1) := by decide +kernel
theorem dX0_youngerSays_22 : decode cX0_youngerSays 22 = .ok (.goto 4, 3) := by decide +kernel
theorem dX0_youngerSays_25 : decode cX0_youngerSays 25 = .ok (.iconst 0, 1) := by decide +kernel
theorem dX0_youngerSays_26 : decode cX0_youngerSays 26 = .ok (.invokestatic 46, 3) := by decide +kernel
theorem dX0_youngerSays_29 : decode cX0_youngerSays 29 = .ok (.ireturn, 1) := by decide +kernel
theorem dX0_youngerSays_30 : decode cX0_youngerSays 30 = .ok (.iload_n 1, 1) := by decide +kernel
theorem dX0_youngerSays_31 : decode cX0_youngerSays 31 = .ok (.iconst 1, 1) := by decide +kernel
theorem dX0_youngerSays_32 : decode cX0_youngerSays 32 = .ok (.ixor, 1) := by decide +kernel
theorem dX0_youngerSays_33 : decode cX0_youngerSays 33 = .ok (.istore_n 3, 1) := by decide +kernel
theorem dX0_youngerSays_34 : decode cX0_youngerSays 34 = .ok (.iload_n 2, 1) := by decide +kernel
theorem dX0_youngerSays_35 : decode cX0_youngerSays 35 = .ok (.iconst 1, 1) := by decide +kernel
theorem dX0_youngerSays_36 : decode cX0_youngerSays 36 = .ok (.if_icmp .ne 20, 3) := by decide +kernel
theorem dX0_youngerSays_39 : decode cX0_youngerSays 39 = .ok (.iload_n 3, 1) := by decide +kernel
theorem dX0_youngerSays_40 : decode cX0_youngerSays 40 = .ok (.aload_n 0, 1) := by decide +kernel
theorem dX0_youngerSays_41 : decode cX0_youngerSays 41 = .ok (.getfield 25, 3) := by decide +kernel
theorem dX0_youngerSays_44 : decode cX0_youngerSays 44 = .ok (.if_icmp .ge 12, 3) := by decide +kernel
theorem dX0_youngerSays_47 : decode cX0_youngerSays 47 = .ok (.aload_n 0, 1) := by decide +kernel
theorem dX0_youngerSays_48 : decode cX0_youngerSays 48 = .ok (.getfield 36, 3) := by decide +kernel
theorem dX0_youngerSays_51 : decode cX0_youngerSays 51 = .ok (.iload_n 3, 1) := by decide +kernel
theorem dX0_youngerSays_52 : decode cX0_youngerSays 52 = .ok (.invokestatic 46, 3) := by decide +kernel
theorem dX0_youngerSays_55 : decode cX0_youngerSays 55 = .ok (.ireturn, 1) := by decide +kernel
theorem dX0_youngerSays_56 : decode cX0_youngerSays 56 = .ok (.iconst 1, 1) := by decide +kernel
theorem dX0_youngerSays_57 : decode cX0_youngerSays 57 = .ok (.aload_n 0, 1) := by decide +kernel
theorem dX0_youngerSays_58 : decode cX0_youngerSays 58 = .ok (.getfield 36, 3) := by decide +kernel
theorem dX0_youngerSays_61 : decode cX0_youngerSays 61 = .ok (.iload_n 1, 1) := by decide +kernel
theorem dX0_youngerSays_62 : decode cX0_youngerSays 62 = .ok (.invokestatic 46, 3) := by decide +kernel
theorem dX0_youngerSays_65 : decode cX0_youngerSays 65 = .ok (.isub, 1) := by decide +kernel
theorem dX0_youngerSays_66 : decode cX0_youngerSays 66 = .ok (.ireturn, 1) := by decide +kernel
theorem dX0_parse_0 : decode cX0_parse 0 = .ok (.aload_n 0, 1) := by decide +kernel
theorem dX0_parse_1 : decode cX0_parse 1 = .ok (.iconst 0, 1) := by decide +kernel
theorem dX0_parse_2 : decode cX0_parse 2 = .ok (.putfield 25, 3) := by decide +kernel
theorem dX0_parse_5 : decode cX0_parse 5 = .ok (.aload_n 0, 1) := by decide +kernel
theorem dX0_parse_6 : decode cX0_parse 6 = .ok (.iconst 0, 1) := by decide +kernel
theorem dX0_parse_7 : decode cX0_parse 7 = .ok (.putfield 36, 3) := by decide +kernel
theorem dX0_parse_10 : decode cX0_parse 10 = .ok (.aload_n 0, 1) := by decide +kernel
theorem dX0_parse_11 : decode cX0_parse 11 = .ok (.aload_n 0, 1) := by decide +kernel
theorem dX0_parse_12 : decode cX0_parse 12 = .ok (.invokevirtual 49, 3) := by decide +kernel
theorem dX0_parse_15 : decode cX0_parse 15 = .ok (.putfield 18, 3) := by decide +kernel
theorem dX0_parse_18 : decode cX0_parse 18 = .ok (.aload_n 0, 1) := by decide +kernel
theorem dX0_parse_19 : decode cX0_parse 19 = .ok (.getfield 18, 3) := by decide +kernel
theorem dX0_parse_22 : decode cX0_parse 22 = .ok (.iconst (-1), 1) := by decide +kernel
theorem dX0_parse_23 : decode cX0_parse 23 = .ok (.if_icmp .eq 4, 3) := by decide +kernel
theorem dX0_parse_26 : decode cX0_parse 26 = .ok (.return_, 1) := by decide +kernel
theorem dX0_parse_27 : decode cX0_parse 27 = .ok (.iconst 0, 1) := by decide +kernel
theorem dX0_parse_28 : decode cX0_parse 28 = .ok (.istore_n 1, 1) := by decide +kernel
theorem dX0_parse_29 : decode cX0_parse 29 = .ok (.iload_n 1, 1) := by decide +kernel
theorem dX0_parse_30 : decode cX0_parse 30 = .ok (.iconst 1, 1) := by decide +kernel
theorem dX0_parse_31 : decode cX0_parse 31 = .ok (.iadd, 1) := by decide +kernel
theorem dX0_parse_32 : decode cX0_parse 32 = .ok (.aload_n 0, 1) := by decide +kernel
theorem dX0_parse_33 : decode cX0_parse 33 = .ok (.getfield 22, 3) := by decide +kernel
theorem dX0_parse_36 : decode cX0_parse 36 = .ok (.if_icmp .ge 74, 3) := by decide +kernel
theorem dX0_parse_39 : decode cX0_parse 39 = .ok (.aload_n 0, 1) := by decide +kernel
theorem dX0_parse_40 : decode cX0_parse 40 = .ok (.getfield 25, 3) := by decide +kernel
theorem dX0_parse_43 : decode cX0_parse 43 = .ok (.bipush 8, 2) := by decide +kernel
theorem dX0_parse_45 : decode cX0_parse 45 = .ok (.if_icmp .ge 65, 3) := by decide +kernel
theorem dX0_parse_48 : decode cX0_parse 48 = .ok (.aload_n 0, 1) := by decide +kernel
theorem dX0_parse_49 : decode cX0_parse 49 = .ok (.getfield 15, 3) := by decide +kernel
theorem dX0_parse_52 : decode cX0_parse 52 = .ok (.aload_n 0, 1) := by decide +kernel
theorem dX0_parse_53 : decode cX0_parse 53 = .ok (.getfield 25, 3) := by decide +kernel
theorem dX0_parse_56 : decode cX0_parse 56 = .ok (.aload_n 0, 1) := by decide +kernel
theorem dX0_parse_57 : decode cX0_parse 57 = .ok (.getfield 11, 3) := by decide +kernel
theorem dX0_parse_60 : decode cX0_parse 60 = .ok (.iload_n 1, 1) := by decide +kernel
theorem dX0_parse_61 : decode cX0_parse 61 = .ok (.iaload, 1) := by decide +kernel
theorem dX0_parse_62 : decode cX0_parse 62 = .ok (.bipush 48, 2) := by decide +kernel
theorem dX0_parse_64 : decode cX0_parse 64 = .ok (.isub, 1) := by decide +kernel
theorem dX0_parse_65 : decode cX0_parse 65 = .ok (.iastore, 1) := by decide +kernel
theorem dX0_parse_66 : decode cX0_parse 66 = .ok (.aload_n 0, 1) := by decide +kernel
theorem dX0_parse_67 : decode cX0_parse 67 = .ok (.getfield 11, 3) := by decide +kernel
theorem dX0_parse_70 : decode cX0_parse 70 = .ok (.iload_n 1, 1) := by decide +kernel
theorem dX0_parse_71 : decode cX0_parse 71 = .ok (.iconst 1, 1) := by decide +kernel
theorem dX0_parse_72 : decode cX0_parse 72 = .ok (.iadd, 1) := by decide +kernel
theorem dX0_parse_73 : decode cX0_parse 73 = .ok (.iaload, 1) := by decide +kernel
theorem dX0_parse_74 : decode cX0_parse 74 = .ok (.bipush 97, 2) := by decide +kernel
theorem dX0_parse_76 : decode cX0_parse 76 = .ok (.if_icmp .ne 18, 3) := by decide +kernel
theorem dX0_parse_79 : decode cX0_parse 79 = .ok (.aload_n 0, 1) := by decide +kernel
theorem dX0_parse_80 : decode cX0_parse 80 = .ok (.dup, 1) := by decide +kernel
theorem dX0_parse_81 : decode cX0_parse 81 = .ok (.getfield 36, 3) := by decide +kernel
theorem dX0_parse_84 : decode cX0_parse 84 = .ok (.iconst 1, 1) := by decide +kernel
theorem dX0_parse_85 : decode cX0_parse 85 = .ok (.aload_n 0, 1) := by decide +kernel
theorem dX0_parse_86 : decode cX0_parse 86 = .ok (.getfield 25, 3) := by decide +kernel
theorem dX0_parse_89 : decode cX0_parse 89 = .ok (.ishl, 1) := by decide +kernel
theorem dX0_parse_90 : decode cX0_parse 90 = .ok (.ior, 1) := by decide +kernel
theorem dX0_parse_91 : decode cX0_parse 91 = .ok (.putfield 36, 3) := by decide +kernel
theorem dX0_parse_94 : decode cX0_parse 94 = .ok (.aload_n 0, 1) := by decide +kernel
theorem dX0_parse_95 : decode cX0_parse 95 = .ok (.dup, 1) := by decide +kernel
theorem dX0_parse_96 : decode cX0_parse 96 = .ok (.getfield 25, 3) := by decide +kernel
theorem dX0_parse_99 : decode cX0_parse 99 = .ok (.iconst 1, 1) := by decide +kernel
theorem dX0_parse_100 : decode cX0_parse 100 = .ok (.iadd, 1) := by decide +kernel
theorem dX0_parse_101 : decode cX0_parse 101 = .ok (.putfield 25, 3) := by decide +kernel
theorem dX0_parse_104 : decode cX0_parse 104 = .ok (.iinc 1 3, 3) := by decide +kernel
theorem dX0_parse_107 : decode cX0_parse 107 = .ok (.goto (-78), 3) := by decide +kernel
theorem dX0_parse_110 : decode cX0_parse 110 = .ok (.return_, 1) := by decide +kernel
theorem dX0_findFault_0 : decode cX0_findFault 0 = .ok (.iconst 0, 1) := by decide +kernel
theorem dX0_findFault_1 : decode cX0_findFault 1 = .ok (.istore_n 1, 1) := by decide +kernel
theorem dX0_findFault_2 : decode cX0_findFault 2 = .ok (.iload_n 1, 1) := by decide +kernel
theorem dX0_findFault_3 : decode cX0_findFault 3 = .ok (.aload_n 0, 1) := by decide +kernel
theorem dX0_findFault_4 : decode cX0_findFault 4 = .ok (.getfield 22, 3) := by decide +kernel
theorem dX0_findFault_7 : decode cX0_findFault 7 = .ok (.if_icmp .ge 19, 3) := by decide +kernel
theorem dX0_findFault_10 : decode cX0_findFault 10 = .ok (.aload_n 0, 1) := by decide +kernel
theorem dX0_findFault_11 : decode cX0_findFault 11 = .ok (.iload_n 1, 1) := by decide +kernel
theorem dX0_findFault_12 : decode cX0_findFault 12 = .ok (.invokevirtual 53, 3) := by decide +kernel
theorem dX0_findFault_15 : decode cX0_findFault 15 = .ok (.ifCond .ne 5, 3) := by decide +kernel
theorem dX0_findFault_18 : decode cX0_findFault 18 = .ok (.iload_n 1, 1) := by decide +kernel
theorem dX0_findFault_19 : decode cX0_findFault 19 = .ok (.ireturn, 1) := by decide +kernel
theorem dX0_findFault_20 : decode cX0_findFault 20 = .ok (.iinc 1 1, 3) := by decide +kernel
theorem dX0_findFault_23 : decode cX0_findFault 23 = .ok (.goto (-21), 3) := by decide +kernel
theorem dX0_findFault_26 : decode cX0_findFault 26 = .ok (.aload_n 0, 1) := by decide +kernel
theorem dX0_findFault_27 : decode cX0_findFault 27 = .ok (.getfield 22, 3) := by decide +kernel
theorem dX0_findFault_30 : decode cX0_findFault 30 = .ok (.ifCond .eq 13, 3) := by decide +kernel
theorem dX0_findFault_33 : decode cX0_findFault 33 = .ok (.aload_n 0, 1) := by decide +kernel
theorem dX0_findFault_34 : decode cX0_findFault 34 = .ok (.getfield 22, 3) := by decide +kernel
theorem dX0_findFault_37 : decode cX0_findFault 37 = .ok (.iconst 3, 1) := by decide +kernel
theorem dX0_findFault_38 : decode cX0_findFault 38 = .ok (.irem, 1) := by decide +kernel
theorem dX0_findFault_39 : decode cX0_findFault 39 = .ok (.iconst 2, 1) := by decide +kernel
theorem dX0_findFault_40 : decode cX0_findFault 40 = .ok (.if_icmp .ne 7, 3) := by decide +kernel
theorem dX0_findFault_43 : decode cX0_findFault 43 = .ok (.iconst (-1), 1) := by decide +kernel
theorem dX0_findFault_44 : decode cX0_findFault 44 = .ok (.goto 7, 3) := by decide +kernel
theorem dX0_findFault_47 : decode cX0_findFault 47 = .ok (.aload_n 0, 1) := by decide +kernel
theorem dX0_findFault_48 : decode cX0_findFault 48 = .ok (.getfield 22, 3) := by decide +kernel
theorem dX0_findFault_51 : decode cX0_findFault 51 = .ok (.ireturn, 1) := by decide +kernel
theorem dX0_fits_0 : decode cX0_fits 0 = .ok (.iload_n 1, 1) := by decide +kernel
theorem dX0_fits_1 : decode cX0_fits 1 = .ok (.iconst 0, 1) := by decide +kernel
theorem dX0_fits_2 : decode cX0_fits 2 = .ok (.aload_n 0, 1) := by decide +kernel
theorem dX0_fits_3 : decode cX0_fits 3 = .ok (.getfield 22, 3) := by decide +kernel
theorem dX0_fits_6 : decode cX0_fits 6 = .ok (.iconst 1, 1) := by decide +kernel
theorem dX0_fits_7 : decode cX0_fits 7 = .ok (.isub, 1) := by decide +kernel
theorem dX0_fits_8 : decode cX0_fits 8 = .ok (.invokestatic 28, 3) := by decide +kernel
theorem dX0_fits_11 : decode cX0_fits 11 = .ok (.ifCond .eq 9, 3) := by decide +kernel
theorem dX0_fits_14 : decode cX0_fits 14 = .ok (.iload_n 1, 1) := by decide +kernel
theorem dX0_fits_15 : decode cX0_fits 15 = .ok (.bipush 24, 2) := by decide +kernel
theorem dX0_fits_17 : decode cX0_fits 17 = .ok (.if_icmp .lt 5, 3) := by decide +kernel
theorem dX0_fits_20 : decode cX0_fits 20 = .ok (.iconst 0, 1) := by decide +kernel
theorem dX0_fits_21 : decode cX0_fits 21 = .ok (.ireturn, 1) := by decide +kernel
theorem dX0_fits_22 : decode cX0_fits 22 = .ok (.aload_n 0, 1) := by decide +kernel
theorem dX0_fits_23 : decode cX0_fits 23 = .ok (.getfield 11, 3) := by decide +kernel
theorem dX0_fits_26 : decode cX0_fits 26 = .ok (.iload_n 1, 1) := by decide +kernel
theorem dX0_fits_27 : decode cX0_fits 27 = .ok (.iaload, 1) := by decide +kernel
theorem dX0_fits_28 : decode cX0_fits 28 = .ok (.istore_n 2, 1) := by decide +kernel
theorem dX0_fits_29 : decode cX0_fits 29 = .ok (.iload_n 1, 1) := by decide +kernel
theorem dX0_fits_30 : decode cX0_fits 30 = .ok (.iconst 3, 1) := by decide +kernel
theorem dX0_fits_31 : decode cX0_fits 31 = .ok (.irem, 1) := by decide +kernel
theorem dX0_fits_32 : decode cX0_fits 32 = .ok (.lookupswitch 55 #[(0, 28), (1, 37)], 28) := by decide +kernel
theorem dX0_fits_60 : decode cX0_fits 60 = .ok (.iload_n 2, 1) := by decide +kernel
theorem dX0_fits_61 : decode cX0_fits 61 = .ok (.bipush 48, 2) := by decide +kernel
theorem dX0_fits_63 : decode cX0_fits 63 = .ok (.bipush 57, 2) := by decide +kernel
theorem dX0_fits_65 : decode cX0_fits 65 = .ok (.invokestatic 28, 3) := by decide +kernel
theorem dX0_fits_68 : decode cX0_fits 68 = .ok (.ireturn, 1) := by decide +kernel
theorem dX0_fits_69 : decode cX0_fits 69 = .ok (.iload_n 2, 1) := by decide +kernel
theorem dX0_fits_70 : decode cX0_fits 70 = .ok (.bipush 97, 2) := by decide +kernel
theorem dX0_fits_72 : decode cX0_fits 72 = .ok (.if_icmp .eq 9, 3) := by decide +kernel
theorem dX0_fits_75 : decode cX0_fits 75 = .ok (.iload_n 2, 1) := by decide +kernel
theorem dX0_fits_76 : decode cX0_fits 76 = .ok (.bipush 102, 2) := by decide +kernel
theorem dX0_fits_78 : decode cX0_fits 78 = .ok (.if_icmp .ne 7, 3) := by decide +kernel
theorem dX0_fits_81 : decode cX0_fits 81 = .ok (.iconst 1, 1) := by decide +kernel
theorem dX0_fits_82 : decode cX0_fits 82 = .ok (.goto 4, 3) := by decide +kernel
theorem dX0_fits_85 : decode cX0_fits 85 = .ok (.iconst 0, 1) := by decide +kernel
theorem dX0_fits_86 : decode cX0_fits 86 = .ok (.ireturn, 1) := by decide +kernel
theorem dX0_fits_87 : decode cX0_fits 87 = .ok (.iload_n 2, 1) := by decide +kernel
theorem dX0_fits_88 : decode cX0_fits 88 = .ok (.bipush 59, 2) := by decide +kernel
theorem dX0_fits_90 : decode cX0_fits 90 = .ok (.if_icmp .ne 7, 3) := by decide +kernel
theorem dX0_fits_93 : decode cX0_fits 93 = .ok (.iconst 1, 1) := by decide +kernel
theorem dX0_fits_94 : decode cX0_fits 94 = .ok (.goto 4, 3) := by decide +kernel
theorem dX0_fits_97 : decode cX0_fits 97 = .ok (.iconst 0, 1) := by decide +kernel
theorem dX0_fits_98 : decode cX0_fits 98 = .ok (.ireturn, 1) := by decide +kernel
theorem dX1_init_0 : decode cX1_init 0 = .ok (.aload_n 0, 1) := by decide +kernel
theorem dX1_init_1 : decode cX1_init 1 = .ok (.invokespecial 3, 3) := by decide +kernel
theorem dX1_init_4 : decode cX1_init 4 = .ok (.aload_n 0, 1) := by decide +kernel
theorem dX1_init_5 : decode cX1_init 5 = .ok (.bipush 40, 2) := by decide +kernel
theorem dX1_init_7 : decode cX1_init 7 = .ok (.newarray .int, 2) := by decide +kernel
theorem dX1_init_9 : decode cX1_init 9 = .ok (.putfield 9, 3) := by decide +kernel
theorem dX1_init_12 : decode cX1_init 12 = .ok (.aload_n 0, 1) := by decide +kernel
theorem dX1_init_13 : decode cX1_init 13 = .ok (.bipush 40, 2) := by decide +kernel
theorem dX1_init_15 : decode cX1_init 15 = .ok (.newarray .int, 2) := by decide +kernel
theorem dX1_init_17 : decode cX1_init 17 = .ok (.putfield 15, 3) := by decide +kernel
theorem dX1_init_20 : decode cX1_init 20 = .ok (.aload_n 0, 1) := by decide +kernel
theorem dX1_init_21 : decode cX1_init 21 = .ok (.bipush 40, 2) := by decide +kernel
theorem dX1_init_23 : decode cX1_init 23 = .ok (.newarray .int, 2) := by decide +kernel
theorem dX1_init_25 : decode cX1_init 25 = .ok (.putfield 18, 3) := by decide +kernel
theorem dX1_init_28 : decode cX1_init 28 = .ok (.aload_n 0, 1) := by decide +kernel
theorem dX1_init_29 : decode cX1_init 29 = .ok (.bipush 40, 2) := by decide +kernel
theorem dX1_init_31 : decode cX1_init 31 = .ok (.newarray .int, 2) := by decide +kernel
theorem dX1_init_33 : decode cX1_init 33 = .ok (.putfield 21, 3) := by decide +kernel
theorem dX1_init_36 : decode cX1_init 36 = .ok (.aload_n 0, 1) := by decide +kernel
theorem dX1_init_37 : decode cX1_init 37 = .ok (.bipush 40, 2) := by decide +kernel
theorem dX1_init_39 : decode cX1_init 39 = .ok (.newarray .int, 2) := by decide +kernel
theorem dX1_init_41 : decode cX1_init 41 = .ok (.putfield 24, 3) := by decide +kernel
theorem dX1_init_44 : decode cX1_init 44 = .ok (.return_, 1) := by decide +kernel
theorem dX1_seat_0 : decode cX1_seat 0 = .ok (.iconst 0, 1) := by decide +kernel
theorem dX1_seat_1 : decode cX1_seat 1 = .ok (.istore_n 3, 1) := by decide +kernel
theorem dX1_seat_2 : decode cX1_seat 2 = .ok (.iload_n 3, 1) := by decide +kernel
theorem dX1_seat_3 : decode cX1_seat 3 = .ok (.bipush 40, 2) := by decide +kernel
theorem dX1_seat_5 : decode cX1_seat 5 = .ok (.if_icmp .ge 21, 3) := by decide +kernel
theorem dX1_seat_8 : decode cX1_seat 8 = .ok (.aload_n 0, 1) := by decide +kernel
theorem dX1_seat_9 : decode cX1_seat 9 = .ok (.getfield 9, 3) := by decide +kernel
theorem dX1_seat_12 : decode cX1_seat 12 = .ok (.iload_n 3, 1) := by decide +kernel
theorem dX1_seat_13 : decode cX1_seat 13 = .ok (.iload_n 3, 1) := by decide +kernel
theorem dX1_seat_14 : decode cX1_seat 14 = .ok (.aload_n 1, 1) := by decide +kernel
theorem dX1_seat_15 : decode cX1_seat 15 = .ok (.aload_n 2, 1) := by decide +kernel
theorem dX1_seat_16 : decode cX1_seat 16 = .ok (.invokestatic 27, 3) := by decide +kernel
theorem dX1_seat_19 : decode cX1_seat 19 = .ok (.iastore, 1) := by decide +kernel
theorem dX1_seat_20 : decode cX1_seat 20 = .ok (.iinc 3 1, 3) := by decide +kernel
theorem dX1_seat_23 : decode cX1_seat 23 = .ok (.goto (-21), 3) := by decide +kernel
theorem dX1_seat_26 : decode cX1_seat 26 = .ok (.return_, 1) := by decide +kernel
theorem dX1_speak_0 : decode cX1_speak 0 = .ok (.aload_n 0, 1) := by decide +kernel
theorem dX1_speak_1 : decode cX1_speak 1 = .ok (.aload_n 1, 1) := by decide +kernel
theorem dX1_speak_2 : decode cX1_speak 2 = .ok (.invokevirtual 31, 3) := by decide +kernel
theorem dX1_speak_5 : decode cX1_speak 5 = .ok (.putfield 37, 3) := by decide +kernel
theorem dX1_speak_8 : decode cX1_speak 8 = .ok (.aload_n 0, 1) := by decide +kernel
theorem dX1_speak_9 : decode cX1_speak 9 = .ok (.aload_n 3, 1) := by decide +kernel
theorem dX1_speak_10 : decode cX1_speak 10 = .ok (.iload 4, 2) := by decide +kernel
theorem dX1_speak_12 : decode cX1_speak 12 = .ok (.invokevirtual 40, 3) := by decide +kernel
theorem dX1_speak_15 : decode cX1_speak 15 = .ok (.aload_n 1, 1) := by decide +kernel
theorem dX1_speak_16 : decode cX1_speak 16 = .ok (.invokevirtual 44, 3) := by decide +kernel
theorem dX1_speak_19 : decode cX1_speak 19 = .ok (.istore 5, 2) := by decide +kernel
theorem dX1_speak_21 : decode cX1_speak 21 = .ok (.aload_n 1, 1) := by decide +kernel
theorem dX1_speak_22 : decode cX1_speak 22 = .ok (.iload_n 2, 1) := by decide +kernel
theorem dX1_speak_23 : decode cX1_speak 23 = .ok (.invokevirtual 47, 3) := by decide +kernel
theorem dX1_speak_26 : decode cX1_speak 26 = .ok (.istore 6, 2) := by decide +kernel
theorem dX1_speak_28 : decode cX1_speak 28 = .ok (.iconst 0, 1) := by decide +kernel
theorem dX1_speak_29 : decode cX1_speak 29 = .ok (.istore 7, 2) := by decide +kernel
theorem dX1_speak_31 : decode cX1_speak 31 = .ok (.iload 7, 2) := by decide +kernel
theorem dX1_speak_33 : decode cX1_speak 33 = .ok (.bipush 40, 2) := by decide +kernel
theorem dX1_speak_35 : decode cX1_speak 35 = .ok (.if_icmp .ge 100, 3) := by decide +kernel
theorem dX1_speak_38 : decode cX1_speak 38 = .ok (.aload_n 0, 1) := by decide +kernel
theorem dX1_speak_39 : decode cX1_speak 39 = .ok (.getfield 9, 3) := by decide +kernel
theorem dX1_speak_42 : decode cX1_speak 42 = .ok (.iload 7, 2) := by decide +kernel
theorem dX1_speak_44 : decode cX1_speak 44 = .ok (.iaload, 1) := by decide +kernel
theorem dX1_speak_45 : decode cX1_speak 45 = .ok (.istore 8, 2) := by decide +kernel
theorem dX1_speak_47 : decode cX1_speak 47 = .ok (.aload_n 0, 1) := by decide +kernel
theorem dX1_speak_48 : decode cX1_speak 48 = .ok (.getfield 15, 3) := by decide +kernel
theorem dX1_speak_51 : decode cX1_speak 51 = .ok (.iload 7, 2) := by decide +kernel
theorem dX1_speak_53 : decode cX1_speak 53 = .ok (.iload 5, 2) := by decide +kernel
theorem dX1_speak_55 : decode cX1_speak 55 = .ok (.iastore, 1) := by decide +kernel
theorem dX1_speak_56 : decode cX1_speak 56 = .ok (.aload_n 0, 1) := by decide +kernel
theorem dX1_speak_57 : decode cX1_speak 57 = .ok (.getfield 18, 3) := by decide +kernel
theorem dX1_speak_60 : decode cX1_speak 60 = .ok (.iload 7, 2) := by decide +kernel
theorem dX1_speak_62 : decode cX1_speak 62 = .ok (.iload 6, 2) := by decide +kernel
theorem dX1_speak_64 : decode cX1_speak 64 = .ok (.iastore, 1) := by decide +kernel
theorem dX1_speak_65 : decode cX1_speak 65 = .ok (.aload_n 0, 1) := by decide +kernel
theorem dX1_speak_66 : decode cX1_speak 66 = .ok (.getfield 21, 3) := by decide +kernel
theorem dX1_speak_69 : decode cX1_speak 69 = .ok (.iload 7, 2) := by decide +kernel
theorem dX1_speak_71 : decode cX1_speak 71 = .ok (.aload_n 0, 1) := by decide +kernel
theorem dX1_speak_72 : decode cX1_speak 72 = .ok (.iload 8, 2) := by decide +kernel
theorem dX1_speak_74 : decode cX1_speak 74 = .ok (.iload 5, 2) := by decide +kernel
theorem dX1_speak_76 : decode cX1_speak 76 = .ok (.iload 6, 2) := by decide +kernel
theorem dX1_speak_78 : decode cX1_speak 78 = .ok (.invokevirtual 51, 3) := by decide +kernel
theorem dX1_speak_81 : decode cX1_speak 81 = .ok (.iastore, 1) := by decide +kernel
theorem dX1_speak_82 : decode cX1_speak 82 = .ok (.iload 8, 2) := by decide +kernel
theorem dX1_speak_84 : decode cX1_speak 84 = .ok (.ifCond .eq 9, 3) := by decide +kernel
theorem dX1_speak_87 : decode cX1_speak 87 = .ok (.iload 8, 2) := by decide +kernel
theorem dX1_speak_89 : decode cX1_speak 89 = .ok (.iconst 2, 1) := by decide +kernel
theorem dX1_speak_90 : decode cX1_speak 90 = .ok (.if_icmp .ne 15, 3) := by decide +kernel
theorem dX1_speak_93 : decode cX1_speak 93 = .ok (.iload 5, 2) := by decide +kernel
theorem dX1_speak_95 : decode cX1_speak 95 = .ok (.aload_n 0, 1) := by decide +kernel
theorem dX1_speak_96 : decode cX1_speak 96 = .ok (.getfield 24, 3) := by decide +kernel
theorem dX1_speak_99 : decode cX1_speak 99 = .ok (.iload 7, 2) := by decide +kernel
theorem dX1_speak_101 : decode cX1_speak 101 = .ok (.iaload, 1) := by decide +kernel
theorem dX1_speak_102 : decode cX1_speak 102 = .ok (.ixor, 1) := by decide +kernel
theorem dX1_speak_103 : decode cX1_speak 103 = .ok (.istore 5, 2) := by decide +kernel
theorem dX1_speak_105 : decode cX1_speak 105 = .ok (.iload 8, 2) := by decide +kernel
theorem dX1_speak_107 : decode cX1_speak 107 = .ok (.iconst 1, 1) := by decide +kernel
theorem dX1_speak_108 : decode cX1_speak 108 = .ok (.if_icmp .eq 9, 3) := by decide +kernel
theorem dX1_speak_111 : decode cX1_speak 111 = .ok (.iload 8, 2) := by decide +kernel
theorem dX1_speak_113 : decode cX1_speak 113 = .ok (.iconst 2, 1) := by decide +kernel
theorem dX1_speak_114 : decode cX1_speak 114 = .ok (.if_icmp .ne 15, 3) := by decide +kernel
theorem dX1_speak_117 : decode cX1_speak 117 = .ok (.iload 6, 2) := by decide +kernel
theorem dX1_speak_119 : decode cX1_speak 119 = .ok (.aload_n 0, 1) := by decide +kernel
theorem dX1_speak_120 : decode cX1_speak 120 = .ok (.getfield 24, 3) := by decide +kernel
theorem dX1_speak_123 : decode cX1_speak 123 = .ok (.iload 7, 2) := by decide +kernel
theorem dX1_speak_125 : decode cX1_speak 125 = .ok (.iaload, 1) := by decide +kernel
theorem dX1_speak_126 : decode cX1_speak 126 = .ok (.ixor, 1) := by decide +kernel
theorem dX1_speak_127 : decode cX1_speak 127 = .ok (.istore 6, 2) := by decide +kernel
theorem dX1_speak_129 : decode cX1_speak 129 = .ok (.iinc 7 1, 3) := by decide +kernel
theorem dX1_speak_132 : decode cX1_speak 132 = .ok (.goto (-101), 3) := by decide +kernel
theorem dX1_speak_135 : decode cX1_speak 135 = .ok (.return_, 1) := by decide +kernel
theorem dX1_everyDeed_0 : decode cX1_everyDeed 0 = .ok (.iconst 1, 1) := by decide +kernel
theorem dX1_everyDeed_1 : decode cX1_everyDeed 1 = .ok (.aload_n 0, 1) := by decide +kernel
theorem dX1_everyDeed_2 : decode cX1_everyDeed 2 = .ok (.getfield 37, 3) := by decide +kernel
theorem dX1_everyDeed_5 : decode cX1_everyDeed 5 = .ok (.ishl, 1) := by decide +kernel
theorem dX1_everyDeed_6 : decode cX1_everyDeed 6 = .ok (.iconst 1, 1) := by decide +kernel
theorem dX1_everyDeed_7 : decode cX1_everyDeed 7 = .ok (.isub, 1) := by decide +kernel
theorem dX1_everyDeed_8 : decode cX1_everyDeed 8 = .ok (.ireturn, 1) := by decide +kernel
theorem dX1_rulerOn_0 : decode cX1_rulerOn 0 = .ok (.iload_n 1, 1) := by decide +kernel
theorem dX1_rulerOn_1 : decode cX1_rulerOn 1 = .ok (.invokestatic 55, 3) := by decide +kernel
theorem dX1_rulerOn_4 : decode cX1_rulerOn 4 = .ok (.ifCond .eq 12, 3) := by decide +kernel
theorem dX1_rulerOn_7 : decode cX1_rulerOn 7 = .ok (.aload_n 0, 1) := by decide +kernel
theorem dX1_rulerOn_8 : decode cX1_rulerOn 8 = .ok (.getfield 9, 3) := by decide +kernel
theorem dX1_rulerOn_11 : decode cX1_rulerOn 11 = .ok (.iload_n 1, 1) := by decide +kernel
theorem dX1_rulerOn_12 : decode cX1_rulerOn 12 = .ok (.iaload, 1) := by decide +kernel
theorem dX1_rulerOn_13 : decode cX1_rulerOn 13 = .ok (.goto 4, 3) := by decide +kernel
theorem dX1_rulerOn_16 : decode cX1_rulerOn 16 = .ok (.iconst (-1), 1) := by decide +kernel
theorem dX1_rulerOn_17 : decode cX1_rulerOn 17 = .ok (.ireturn, 1) := by decide +kernel
theorem dX1_coinOn_0 : decode cX1_coinOn 0 = .ok (.aload_n 0, 1) := by decide +kernel
theorem dX1_coinOn_1 : decode cX1_coinOn 1 = .ok (.iload_n 1, 1) := by decide +kernel
theorem dX1_coinOn_2 : decode cX1_coinOn 2 = .ok (.invokevirtual 59, 3) := by decide +kernel
theorem dX1_coinOn_5 : decode cX1_coinOn 5 = .ok (.iconst 2, 1) := by decide +kernel
theorem dX1_coinOn_6 : decode cX1_coinOn 6 = .ok (.if_icmp .ne 7, 3) := by decide +kernel
theorem dX1_coinOn_9 : decode cX1_coinOn 9 = .ok (.iconst 0, 1) := by decide +kernel
theorem dX1_coinOn_10 : decode cX1_coinOn 10 = .ok (.goto 8, 3) := by decide +kernel
theorem dX1_coinOn_13 : decode cX1_coinOn 13 = .ok (.aload_n 0, 1) := by decide +kernel
theorem dX1_coinOn_14 : decode cX1_coinOn 14 = .ok (.iload_n 1, 1) := by decide +kernel
theorem dX1_coinOn_15 : decode cX1_coinOn 15 = .ok (.invokevirtual 59, 3) := by decide +kernel
theorem dX1_coinOn_18 : decode cX1_coinOn 18 = .ok (.ireturn, 1) := by decide +kernel
theorem dX1_saidOn_0 : decode cX1_saidOn 0 = .ok (.iload_n 1, 1) := by decide +kernel
theorem dX1_saidOn_1 : decode cX1_saidOn 1 = .ok (.invokestatic 55, 3) := by decide +kernel
theorem dX1_saidOn_4 : decode cX1_saidOn 4 = .ok (.ifCond .ne 5, 3) := by decide +kernel
theorem dX1_saidOn_7 : decode cX1_saidOn 7 = .ok (.iconst 0, 1) := by decide +kernel
theorem dX1_saidOn_8 : decode cX1_saidOn 8 = .ok (.ireturn, 1) := by decide +kernel
theorem dX1_saidOn_9 : decode cX1_saidOn 9 = .ok (.iload_n 2, 1) := by decide +kernel
theorem dX1_saidOn_10 : decode cX1_saidOn 10 = .ok (.ifCond .ne 12, 3) := by decide +kernel
theorem dX1_saidOn_13 : decode cX1_saidOn 13 = .ok (.aload_n 0, 1) := by decide +kernel
theorem dX1_saidOn_14 : decode cX1_saidOn 14 = .ok (.getfield 15, 3) := by decide +kernel
theorem dX1_saidOn_17 : decode cX1_saidOn 17 = .ok (.iload_n 1, 1) := by decide +kernel
theorem dX1_saidOn_18 : decode cX1_saidOn 18 = .ok (.iaload, 1) := by decide +kernel
theorem dX1_saidOn_19 : decode cX1_saidOn 19 = .ok (.goto 9, 3) := by decide +kernel
theorem dX1_saidOn_22 : decode cX1_saidOn 22 = .ok (.aload_n 0, 1) := by decide +kernel
theorem dX1_saidOn_23 : decode cX1_saidOn 23 = .ok (.getfield 18, 3) := by decide +kernel
theorem dX1_saidOn_26 : decode cX1_saidOn 26 = .ok (.iload_n 1, 1) := by decide +kernel
theorem dX1_saidOn_27 : decode cX1_saidOn 27 = .ok (.iaload, 1) := by decide +kernel
theorem dX1_saidOn_28 : decode cX1_saidOn 28 = .ok (.ireturn, 1) := by decide +kernel
theorem dX1_openOn_0 : decode cX1_openOn 0 = .ok (.iload_n 1, 1) := by decide +kernel
theorem dX1_openOn_1 : decode cX1_openOn 1 = .ok (.invokestatic 55, 3) := by decide +kernel
theorem dX1_openOn_4 : decode cX1_openOn 4 = .ok (.ifCond .eq 12, 3) := by decide +kernel
theorem dX1_openOn_7 : decode cX1_openOn 7 = .ok (.aload_n 0, 1) := by decide +kernel
theorem dX1_openOn_8 : decode cX1_openOn 8 = .ok (.getfield 21, 3) := by decide +kernel
theorem dX1_openOn_11 : decode cX1_openOn 11 = .ok (.iload_n 1, 1) := by decide +kernel
theorem dX1_openOn_12 : decode cX1_openOn 12 = .ok (.iaload, 1) := by decide +kernel
theorem dX1_openOn_13 : decode cX1_openOn 13 = .ok (.goto 4, 3) := by decide +kernel
theorem dX1_openOn_16 : decode cX1_openOn 16 = .ok (.iconst 0, 1) := by decide +kernel
theorem dX1_openOn_17 : decode cX1_openOn 17 = .ok (.ireturn, 1) := by decide +kernel
theorem dX1_openDays_0 : decode cX1_openDays 0 = .ok (.lconst 0, 1) := by decide +kernel
theorem dX1_openDays_1 : decode cX1_openDays 1 = .ok (.lstore_n 2, 1) := by decide +kernel
theorem dX1_openDays_2 : decode cX1_openDays 2 = .ok (.iload_n 1, 1) := by decide +kernel
theorem dX1_openDays_3 : decode cX1_openDays 3 = .ok (.iconst 0, 1) := by decide +kernel
theorem dX1_openDays_4 : decode cX1_openDays 4 = .ok (.aload_n 0, 1) := by decide +kernel
theorem dX1_openDays_5 : decode cX1_openDays 5 = .ok (.getfield 37, 3) := by decide +kernel
theorem dX1_openDays_8 : decode cX1_openDays 8 = .ok (.iconst 1, 1) := by decide +kernel
theorem dX1_openDays_9 : decode cX1_openDays 9 = .ok (.isub, 1) := by decide +kernel
theorem dX1_openDays_10 : decode cX1_openDays 10 = .ok (.invokestatic 62, 3) := by decide +kernel
theorem dX1_openDays_13 : decode cX1_openDays 13 = .ok (.ifCond .ne 5, 3) := by decide +kernel
theorem dX1_openDays_16 : decode cX1_openDays 16 = .ok (.lload_n 2, 1) := by decide +kernel
theorem dX1_openDays_17 : decode cX1_openDays 17 = .ok (.lreturn, 1) := by decide +kernel
theorem dX1_openDays_18 : decode cX1_openDays 18 = .ok (.iconst 0, 1) := by decide +kernel
theorem dX1_openDays_19 : decode cX1_openDays 19 = .ok (.istore 4, 2) := by decide +kernel
theorem dX1_openDays_21 : decode cX1_openDays 21 = .ok (.iload 4, 2) := by decide +kernel
theorem dX1_openDays_23 : decode cX1_openDays 23 = .ok (.bipush 40, 2) := by decide +kernel
theorem dX1_openDays_25 : decode cX1_openDays 25 = .ok (.if_icmp .ge 27, 3) := by decide +kernel
theorem dX1_openDays_28 : decode cX1_openDays 28 = .ok (.lload_n 2, 1) := by decide +kernel
theorem dX1_openDays_29 : decode cX1_openDays 29 = .ok (.aload_n 0, 1) := by decide +kernel
theorem dX1_openDays_30 : decode cX1_openDays 30 = .ok (.getfield 21, 3) := by decide +kernel
theorem dX1_openDays_33 : decode cX1_openDays 33 = .ok (.iload 4, 2) := by decide +kernel
theorem dX1_openDays_35 : decode cX1_openDays 35 = .ok (.iaload, 1) := by decide +kernel
theorem dX1_openDays_36 : decode cX1_openDays 36 = .ok (.iload_n 1, 1) := by decide +kernel
theorem dX1_openDays_37 : decode cX1_openDays 37 = .ok (.invokestatic 66, 3) := by decide +kernel
theorem dX1_openDays_40 : decode cX1_openDays 40 = .ok (.i2l, 1) := by decide +kernel
theorem dX1_openDays_41 : decode cX1_openDays 41 = .ok (.iload 4, 2) := by decide +kernel
theorem dX1_openDays_43 : decode cX1_openDays 43 = .ok (.lshl, 1) := by decide +kernel
theorem dX1_openDays_44 : decode cX1_openDays 44 = .ok (.lor, 1) := by decide +kernel
theorem dX1_openDays_45 : decode cX1_openDays 45 = .ok (.lstore_n 2, 1) := by decide +kernel
theorem dX1_openDays_46 : decode cX1_openDays 46 = .ok (.iinc 4 1, 3) := by decide +kernel
theorem dX1_openDays_49 : decode cX1_openDays 49 = .ok (.goto (-28), 3) := by decide +kernel
theorem dX1_openDays_52 : decode cX1_openDays 52 = .ok (.lload_n 2, 1) := by decide +kernel
theorem dX1_openDays_53 : decode cX1_openDays 53 = .ok (.lreturn, 1) := by decide +kernel
theorem dX1_startDays_0 : decode cX1_startDays 0 = .ok (.aload_n 0, 1) := by decide +kernel
theorem dX1_startDays_1 : decode cX1_startDays 1 = .ok (.iload_n 1, 1) := by decide +kernel
theorem dX1_startDays_2 : decode cX1_startDays 2 = .ok (.invokevirtual 70, 3) := by decide +kernel
theorem dX1_startDays_5 : decode cX1_startDays 5 = .ok (.lstore_n 3, 1) := by decide +kernel
theorem dX1_startDays_6 : decode cX1_startDays 6 = .ok (.lload_n 3, 1) := by decide +kernel
theorem dX1_startDays_7 : decode cX1_startDays 7 = .ok (.lstore 5, 2) := by decide +kernel
theorem dX1_startDays_9 : decode cX1_startDays 9 = .ok (.iconst 1, 1) := by decide +kernel
theorem dX1_startDays_10 : decode cX1_startDays 10 = .ok (.istore 7, 2) := by decide +kernel
theorem dX1_startDays_12 : decode cX1_startDays 12 = .ok (.iload 7, 2) := by decide +kernel
theorem dX1_startDays_14 : decode cX1_startDays 14 = .ok (.iload_n 2, 1) := by decide +kernel
theorem dX1_startDays_15 : decode cX1_startDays 15 = .ok (.if_icmp .ge 18, 3) := by decide +kernel
theorem dX1_startDays_18 : decode cX1_startDays 18 = .ok (.lload 5, 2) := by decide +kernel
theorem dX1_startDays_20 : decode cX1_startDays 20 = .ok (.lload_n 3, 1) := by decide +kernel
theorem dX1_startDays_21 : decode cX1_startDays 21 = .ok (.iload 7, 2) := by decide +kernel
theorem dX1_startDays_23 : decode cX1_startDays 23 = .ok (.lushr, 1) := by decide +kernel
theorem dX1_startDays_24 : decode cX1_startDays 24 = .ok (.land, 1) := by decide +kernel
theorem dX1_startDays_25 : decode cX1_startDays 25 = .ok (.lstore 5, 2) := by decide +kernel
theorem dX1_startDays_27 : decode cX1_startDays 27 = .ok (.iinc 7 1, 3) := by decide +kernel
theorem dX1_startDays_30 : decode cX1_startDays 30 = .ok (.goto (-18), 3) := by decide +kernel
theorem dX1_startDays_33 : decode cX1_startDays 33 = .ok (.lload 5, 2) := by decide +kernel
theorem dX1_startDays_35 : decode cX1_startDays 35 = .ok (.lreturn, 1) := by decide +kernel
theorem dX1_openIn256_0 : decode cX1_openIn256 0 = .ok (.aload_n 0, 1) := by decide +kernel
theorem dX1_openIn256_1 : decode cX1_openIn256 1 = .ok (.iload_n 1, 1) := by decide +kernel
theorem dX1_openIn256_2 : decode cX1_openIn256 2 = .ok (.invokevirtual 59, 3) := by decide +kernel
theorem dX1_openIn256_5 : decode cX1_openIn256 5 = .ok (.iconst 2, 1) := by decide +kernel
theorem dX1_openIn256_6 : decode cX1_openIn256 6 = .ok (.if_icmp .ne 17, 3) := by decide +kernel
theorem dX1_openIn256_9 : decode cX1_openIn256 9 = .ok (.sipush 256, 3) := by decide +kernel
theorem dX1_openIn256_12 : decode cX1_openIn256 12 = .ok (.aload_n 0, 1) := by decide +kernel
theorem dX1_openIn256_13 : decode cX1_openIn256 13 = .ok (.iload_n 1, 1) := by decide +kernel
theorem dX1_openIn256_14 : decode cX1_openIn256 14 = .ok (.invokevirtual 74, 3) := by decide +kernel
theorem dX1_openIn256_17 : decode cX1_openIn256 17 = .ok (.iload_n 2, 1) := by decide +kernel
theorem dX1_openIn256_18 : decode cX1_openIn256 18 = .ok (.invokestatic 66, 3) := by decide +kernel
theorem dX1_openIn256_21 : decode cX1_openIn256 21 = .ok (.imul, 1) := by decide +kernel
theorem dX1_openIn256_22 : decode cX1_openIn256 22 = .ok (.ireturn, 1) := by decide +kernel
theorem dX1_openIn256_23 : decode cX1_openIn256 23 = .ok (.iload_n 1, 1) := by decide +kernel
theorem dX1_openIn256_24 : decode cX1_openIn256 24 = .ok (.invokestatic 77, 3) := by decide +kernel
theorem dX1_openIn256_27 : decode cX1_openIn256 27 = .ok (.ifCond .eq 7, 3) := by decide +kernel
theorem dX1_openIn256_30 : decode cX1_openIn256 30 = .ok (.sipush 256, 3) := by decide +kernel
theorem dX1_openIn256_33 : decode cX1_openIn256 33 = .ok (.ireturn, 1) := by decide +kernel
theorem dX1_openIn256_34 : decode cX1_openIn256 34 = .ok (.iload_n 1, 1) := by decide +kernel
theorem dX1_openIn256_35 : decode cX1_openIn256 35 = .ok (.invokestatic 80, 3) := by decide +kernel
theorem dX1_openIn256_38 : decode cX1_openIn256 38 = .ok (.istore 4, 2) := by decide +kernel
theorem dX1_openIn256_40 : decode cX1_openIn256 40 = .ok (.bipush 16, 2) := by decide +kernel
theorem dX1_openIn256_42 : decode cX1_openIn256 42 = .ok (.bipush 16, 2) := by decide +kernel
theorem dX1_openIn256_44 : decode cX1_openIn256 44 = .ok (.iload_n 3, 1) := by decide +kernel
theorem dX1_openIn256_45 : decode cX1_openIn256 45 = .ok (.isub, 1) := by decide +kernel
theorem dX1_openIn256_46 : decode cX1_openIn256 46 = .ok (.imul, 1) := by decide +kernel
theorem dX1_openIn256_47 : decode cX1_openIn256 47 = .ok (.aload_n 0, 1) := by decide +kernel
theorem dX1_openIn256_48 : decode cX1_openIn256 48 = .ok (.iload_n 1, 1) := by decide +kernel
theorem dX1_openIn256_49 : decode cX1_openIn256 49 = .ok (.iload 4, 2) := by decide +kernel
theorem dX1_openIn256_51 : decode cX1_openIn256 51 = .ok (.invokevirtual 83, 3) := by decide +kernel
theorem dX1_openIn256_54 : decode cX1_openIn256 54 = .ok (.iload_n 2, 1) := by decide +kernel
theorem dX1_openIn256_55 : decode cX1_openIn256 55 = .ok (.invokestatic 66, 3) := by decide +kernel
theorem dX1_openIn256_58 : decode cX1_openIn256 58 = .ok (.imul, 1) := by decide +kernel
theorem dX1_openIn256_59 : decode cX1_openIn256 59 = .ok (.istore 5, 2) := by decide +kernel
theorem dX1_openIn256_61 : decode cX1_openIn256 61 = .ok (.iload_n 3, 1) := by decide +kernel
theorem dX1_openIn256_62 : decode cX1_openIn256 62 = .ok (.bipush 16, 2) := by decide +kernel
theorem dX1_openIn256_64 : decode cX1_openIn256 64 = .ok (.iload_n 3, 1) := by decide +kernel
theorem dX1_openIn256_65 : decode cX1_openIn256 65 = .ok (.isub, 1) := by decide +kernel
theorem dX1_openIn256_66 : decode cX1_openIn256 66 = .ok (.imul, 1) := by decide +kernel
theorem dX1_openIn256_67 : decode cX1_openIn256 67 = .ok (.aload_n 0, 1) := by decide +kernel
theorem dX1_openIn256_68 : decode cX1_openIn256 68 = .ok (.iload_n 1, 1) := by decide +kernel
theorem dX1_openIn256_69 : decode cX1_openIn256 69 = .ok (.iconst 1, 1) := by decide +kernel
theorem dX1_openIn256_70 : decode cX1_openIn256 70 = .ok (.iload 4, 2) := by decide +kernel
theorem dX1_openIn256_72 : decode cX1_openIn256 72 = .ok (.isub, 1) := by decide +kernel
theorem dX1_openIn256_73 : decode cX1_openIn256 73 = .ok (.invokevirtual 83, 3) := by decide +kernel
theorem dX1_openIn256_76 : decode cX1_openIn256 76 = .ok (.iload_n 2, 1) := by decide +kernel
theorem dX1_openIn256_77 : decode cX1_openIn256 77 = .ok (.invokestatic 66, 3) := by decide +kernel
theorem dX1_openIn256_80 : decode cX1_openIn256 80 = .ok (.imul, 1) := by decide +kernel
theorem dX1_openIn256_81 : decode cX1_openIn256 81 = .ok (.istore 6, 2) := by decide +kernel
theorem dX1_openIn256_83 : decode cX1_openIn256 83 = .ok (.iload 5, 2) := by decide +kernel
theorem dX1_openIn256_85 : decode cX1_openIn256 85 = .ok (.iload 6, 2) := by decide +kernel
theorem dX1_openIn256_87 : decode cX1_openIn256 87 = .ok (.iadd, 1) := by decide +kernel
theorem dX1_openIn256_88 : decode cX1_openIn256 88 = .ok (.iload_n 3, 1) := by decide +kernel
theorem dX1_openIn256_89 : decode cX1_openIn256 89 = .ok (.iload_n 3, 1) := by decide +kernel
theorem dX1_openIn256_90 : decode cX1_openIn256 90 = .ok (.imul, 1) := by decide +kernel
theorem dX1_openIn256_91 : decode cX1_openIn256 91 = .ok (.iadd, 1) := by decide +kernel
theorem dX1_openIn256_92 : decode cX1_openIn256 92 = .ok (.ireturn, 1) := by decide +kernel
theorem dX1_numberAtBest_0 : decode cX1_numberAtBest 0 = .ok (.aload_n 0, 1) := by decide +kernel
theorem dX1_numberAtBest_1 : decode cX1_numberAtBest 1 = .ok (.iload_n 1, 1) := by decide +kernel
theorem dX1_numberAtBest_2 : decode cX1_numberAtBest 2 = .ok (.iload_n 2, 1) := by decide +kernel
theorem dX1_numberAtBest_3 : decode cX1_numberAtBest 3 = .ok (.iconst 0, 1) := by decide +kernel
theorem dX1_numberAtBest_4 : decode cX1_numberAtBest 4 = .ok (.iconst 0, 1) := by decide +kernel
theorem dX1_numberAtBest_5 : decode cX1_numberAtBest 5 = .ok (.invokevirtual 86, 3) := by decide +kernel
theorem dX1_numberAtBest_8 : decode cX1_numberAtBest 8 = .ok (.ireturn, 1) := by decide +kernel
theorem dX1_wordAtBest_0 : decode cX1_wordAtBest 0 = .ok (.aload_n 0, 1) := by decide +kernel
theorem dX1_wordAtBest_1 : decode cX1_wordAtBest 1 = .ok (.iload_n 1, 1) := by decide +kernel
theorem dX1_wordAtBest_2 : decode cX1_wordAtBest 2 = .ok (.invokevirtual 59, 3) := by decide +kernel
theorem dX1_wordAtBest_5 : decode cX1_wordAtBest 5 = .ok (.istore_n 3, 1) := by decide +kernel
theorem dX1_wordAtBest_6 : decode cX1_wordAtBest 6 = .ok (.iload_n 3, 1) := by decide +kernel
theorem dX1_wordAtBest_7 : decode cX1_wordAtBest 7 = .ok (.invokestatic 90, 3) := by decide +kernel
theorem dX1_wordAtBest_10 : decode cX1_wordAtBest 10 = .ok (.ifCond .ne 5, 3) := by decide +kernel
theorem dX1_wordAtBest_13 : decode cX1_wordAtBest 13 = .ok (.iconst (-1), 1) := by decide +kernel
theorem dX1_wordAtBest_14 : decode cX1_wordAtBest 14 = .ok (.ireturn, 1) := by decide +kernel
theorem dX1_wordAtBest_15 : decode cX1_wordAtBest 15 = .ok (.aload_n 0, 1) := by decide +kernel
theorem dX1_wordAtBest_16 : decode cX1_wordAtBest 16 = .ok (.iload_n 1, 1) := by decide +kernel
theorem dX1_wordAtBest_17 : decode cX1_wordAtBest 17 = .ok (.iload_n 2, 1) := by decide +kernel
theorem dX1_wordAtBest_18 : decode cX1_wordAtBest 18 = .ok (.invokevirtual 93, 3) := by decide +kernel
theorem dX1_wordAtBest_21 : decode cX1_wordAtBest 21 = .ok (.istore 4, 2) := by decide +kernel
theorem dX1_wordAtBest_23 : decode cX1_wordAtBest 23 = .ok (.iconst 0, 1) := by decide +kernel
theorem dX1_wordAtBest_24 : decode cX1_wordAtBest 24 = .ok (.istore 5, 2) := by decide +kernel
theorem dX1_wordAtBest_26 : decode cX1_wordAtBest 26 = .ok (.iload 5, 2) := by decide +kernel
theorem dX1_wordAtBest_28 : decode cX1_wordAtBest 28 = .ok (.aload_n 0, 1) := by decide +kernel
theorem dX1_wordAtBest_29 : decode cX1_wordAtBest 29 = .ok (.getfield 37, 3) := by decide +kernel
theorem dX1_wordAtBest_32 : decode cX1_wordAtBest 32 = .ok (.if_icmp .ge 53, 3) := by decide +kernel
theorem dX1_wordAtBest_35 : decode cX1_wordAtBest 35 = .ok (.iconst 1, 1) := by decide +kernel
theorem dX1_wordAtBest_36 : decode cX1_wordAtBest 36 = .ok (.iload 5, 2) := by decide +kernel
theorem dX1_wordAtBest_38 : decode cX1_wordAtBest 38 = .ok (.ishl, 1) := by decide +kernel
theorem dX1_wordAtBest_39 : decode cX1_wordAtBest 39 = .ok (.istore 6, 2) := by decide +kernel
theorem dX1_wordAtBest_41 : decode cX1_wordAtBest 41 = .ok (.aload_n 0, 1) := by decide +kernel
theorem dX1_wordAtBest_42 : decode cX1_wordAtBest 42 = .ok (.iload_n 1, 1) := by decide +kernel
theorem dX1_wordAtBest_43 : decode cX1_wordAtBest 43 = .ok (.iconst 1, 1) := by decide +kernel
theorem dX1_wordAtBest_44 : decode cX1_wordAtBest 44 = .ok (.iadd, 1) := by decide +kernel
theorem dX1_wordAtBest_45 : decode cX1_wordAtBest 45 = .ok (.iload_n 2, 1) := by decide +kernel
theorem dX1_wordAtBest_46 : decode cX1_wordAtBest 46 = .ok (.iconst 1, 1) := by decide +kernel
theorem dX1_wordAtBest_47 : decode cX1_wordAtBest 47 = .ok (.isub, 1) := by decide +kernel
theorem dX1_wordAtBest_48 : decode cX1_wordAtBest 48 = .ok (.iload_n 3, 1) := by decide +kernel
theorem dX1_wordAtBest_49 : decode cX1_wordAtBest 49 = .ok (.ifCond .ne 8, 3) := by decide +kernel
theorem dX1_wordAtBest_52 : decode cX1_wordAtBest 52 = .ok (.iload 6, 2) := by decide +kernel
theorem dX1_wordAtBest_54 : decode cX1_wordAtBest 54 = .ok (.goto 4, 3) := by decide +kernel
theorem dX1_wordAtBest_57 : decode cX1_wordAtBest 57 = .ok (.iconst 0, 1) := by decide +kernel
theorem dX1_wordAtBest_58 : decode cX1_wordAtBest 58 = .ok (.iload_n 3, 1) := by decide +kernel
theorem dX1_wordAtBest_59 : decode cX1_wordAtBest 59 = .ok (.ifCond .ne 7, 3) := by decide +kernel
theorem dX1_wordAtBest_62 : decode cX1_wordAtBest 62 = .ok (.iconst 0, 1) := by decide +kernel
theorem dX1_wordAtBest_63 : decode cX1_wordAtBest 63 = .ok (.goto 5, 3) := by decide +kernel
theorem dX1_wordAtBest_66 : decode cX1_wordAtBest 66 = .ok (.iload 6, 2) := by decide +kernel
theorem dX1_wordAtBest_68 : decode cX1_wordAtBest 68 = .ok (.invokevirtual 86, 3) := by decide +kernel
theorem dX1_wordAtBest_71 : decode cX1_wordAtBest 71 = .ok (.iload 4, 2) := by decide +kernel
theorem dX1_wordAtBest_73 : decode cX1_wordAtBest 73 = .ok (.if_icmp .ne 6, 3) := by decide +kernel
theorem dX1_wordAtBest_76 : decode cX1_wordAtBest 76 = .ok (.iload 5, 2) := by decide +kernel
theorem dX1_wordAtBest_78 : decode cX1_wordAtBest 78 = .ok (.ireturn, 1) := by decide +kernel
theorem dX1_wordAtBest_79 : decode cX1_wordAtBest 79 = .ok (.iinc 5 1, 3) := by decide +kernel
theorem dX1_wordAtBest_82 : decode cX1_wordAtBest 82 = .ok (.goto (-56), 3) := by decide +kernel
theorem dX1_wordAtBest_85 : decode cX1_wordAtBest 85 = .ok (.bipush 8, 2) := by decide +kernel
theorem dX1_wordAtBest_87 : decode cX1_wordAtBest 87 = .ok (.ireturn, 1) := by decide +kernel
theorem dX1_playOn_0 : decode cX1_playOn 0 = .ok (.iload_n 2, 1) := by decide +kernel
theorem dX1_playOn_1 : decode cX1_playOn 1 = .ok (.ifCond .gt 41, 3) := by decide +kernel
theorem dX1_playOn_4 : decode cX1_playOn 4 = .ok (.aload_n 0, 1) := by decide +kernel
theorem dX1_playOn_5 : decode cX1_playOn 5 = .ok (.iload_n 1, 1) := by decide +kernel
theorem dX1_playOn_6 : decode cX1_playOn 6 = .ok (.iconst 0, 1) := by decide +kernel
theorem dX1_playOn_7 : decode cX1_playOn 7 = .ok (.invokevirtual 83, 3) := by decide +kernel
theorem dX1_playOn_10 : decode cX1_playOn 10 = .ok (.iload_n 3, 1) := by decide +kernel
theorem dX1_playOn_11 : decode cX1_playOn 11 = .ok (.ixor, 1) := by decide +kernel
theorem dX1_playOn_12 : decode cX1_playOn 12 = .ok (.istore 5, 2) := by decide +kernel
theorem dX1_playOn_14 : decode cX1_playOn 14 = .ok (.aload_n 0, 1) := by decide +kernel
theorem dX1_playOn_15 : decode cX1_playOn 15 = .ok (.iload_n 1, 1) := by decide +kernel
theorem dX1_playOn_16 : decode cX1_playOn 16 = .ok (.iconst 1, 1) := by decide +kernel
theorem dX1_playOn_17 : decode cX1_playOn 17 = .ok (.invokevirtual 83, 3) := by decide +kernel
theorem dX1_playOn_20 : decode cX1_playOn 20 = .ok (.iload 4, 2) := by decide +kernel
theorem dX1_playOn_22 : decode cX1_playOn 22 = .ok (.ixor, 1) := by decide +kernel
theorem dX1_playOn_23 : decode cX1_playOn 23 = .ok (.istore 6, 2) := by decide +kernel
theorem dX1_playOn_25 : decode cX1_playOn 25 = .ok (.aload_n 0, 1) := by decide +kernel
theorem dX1_playOn_26 : decode cX1_playOn 26 = .ok (.aload_n 0, 1) := by decide +kernel
theorem dX1_playOn_27 : decode cX1_playOn 27 = .ok (.iload_n 1, 1) := by decide +kernel
theorem dX1_playOn_28 : decode cX1_playOn 28 = .ok (.invokevirtual 59, 3) := by decide +kernel
theorem dX1_playOn_31 : decode cX1_playOn 31 = .ok (.iload 5, 2) := by decide +kernel
theorem dX1_playOn_33 : decode cX1_playOn 33 = .ok (.iload 6, 2) := by decide +kernel
theorem dX1_playOn_35 : decode cX1_playOn 35 = .ok (.invokevirtual 51, 3) := by decide +kernel
theorem dX1_playOn_38 : decode cX1_playOn 38 = .ok (.invokestatic 96, 3) := by decide +kernel
theorem dX1_playOn_41 : decode cX1_playOn 41 = .ok (.ireturn, 1) := by decide +kernel
theorem dX1_playOn_42 : decode cX1_playOn 42 = .ok (.aload_n 0, 1) := by decide +kernel
theorem dX1_playOn_43 : decode cX1_playOn 43 = .ok (.iload_n 1, 1) := by decide +kernel
theorem dX1_playOn_44 : decode cX1_playOn 44 = .ok (.iconst 1, 1) := by decide +kernel
theorem dX1_playOn_45 : decode cX1_playOn 45 = .ok (.iadd, 1) := by decide +kernel
theorem dX1_playOn_46 : decode cX1_playOn 46 = .ok (.iload_n 2, 1) := by decide +kernel
theorem dX1_playOn_47 : decode cX1_playOn 47 = .ok (.iconst 1, 1) := by decide +kernel
theorem dX1_playOn_48 : decode cX1_playOn 48 = .ok (.isub, 1) := by decide +kernel
theorem dX1_playOn_49 : decode cX1_playOn 49 = .ok (.iload_n 3, 1) := by decide +kernel
theorem dX1_playOn_50 : decode cX1_playOn 50 = .ok (.iload 4, 2) := by decide +kernel
theorem dX1_playOn_52 : decode cX1_playOn 52 = .ok (.invokevirtual 86, 3) := by decide +kernel
theorem dX1_playOn_55 : decode cX1_playOn 55 = .ok (.istore 5, 2) := by decide +kernel
theorem dX1_playOn_57 : decode cX1_playOn 57 = .ok (.aload_n 0, 1) := by decide +kernel
theorem dX1_playOn_58 : decode cX1_playOn 58 = .ok (.iload_n 1, 1) := by decide +kernel
theorem dX1_playOn_59 : decode cX1_playOn 59 = .ok (.invokevirtual 59, 3) := by decide +kernel
theorem dX1_playOn_62 : decode cX1_playOn 62 = .ok (.istore 6, 2) := by decide +kernel
theorem dX1_playOn_64 : decode cX1_playOn 64 = .ok (.iconst 0, 1) := by decide +kernel
theorem dX1_playOn_65 : decode cX1_playOn 65 = .ok (.istore 7, 2) := by decide +kernel
theorem dX1_playOn_67 : decode cX1_playOn 67 = .ok (.iload 7, 2) := by decide +kernel
theorem dX1_playOn_69 : decode cX1_playOn 69 = .ok (.aload_n 0, 1) := by decide +kernel
theorem dX1_playOn_70 : decode cX1_playOn 70 = .ok (.getfield 37, 3) := by decide +kernel
theorem dX1_playOn_73 : decode cX1_playOn 73 = .ok (.if_icmp .ge 77, 3) := by decide +kernel
theorem dX1_playOn_76 : decode cX1_playOn 76 = .ok (.iload 6, 2) := by decide +kernel
theorem dX1_playOn_78 : decode cX1_playOn 78 = .ok (.invokestatic 90, 3) := by decide +kernel
theorem dX1_playOn_81 : decode cX1_playOn 81 = .ok (.ifCond .eq 69, 3) := by decide +kernel
theorem dX1_playOn_84 : decode cX1_playOn 84 = .ok (.iconst 1, 1) := by decide +kernel
theorem dX1_playOn_85 : decode cX1_playOn 85 = .ok (.iload 7, 2) := by decide +kernel
theorem dX1_playOn_87 : decode cX1_playOn 87 = .ok (.ishl, 1) := by decide +kernel
theorem dX1_playOn_88 : decode cX1_playOn 88 = .ok (.istore 8, 2) := by decide +kernel
theorem dX1_playOn_90 : decode cX1_playOn 90 = .ok (.iload 6, 2) := by decide +kernel
theorem dX1_playOn_92 : decode cX1_playOn 92 = .ok (.ifCond .ne 29, 3) := by decide +kernel
theorem dX1_playOn_95 : decode cX1_playOn 95 = .ok (.iload 5, 2) := by decide +kernel
theorem dX1_playOn_97 : decode cX1_playOn 97 = .ok (.aload_n 0, 1) := by decide +kernel
theorem dX1_playOn_98 : decode cX1_playOn 98 = .ok (.iload_n 1, 1) := by decide +kernel
theorem dX1_playOn_99 : decode cX1_playOn 99 = .ok (.iconst 1, 1) := by decide +kernel
theorem dX1_playOn_100 : decode cX1_playOn 100 = .ok (.iadd, 1) := by decide +kernel
theorem dX1_playOn_101 : decode cX1_playOn 101 = .ok (.iload_n 2, 1) := by decide +kernel
theorem dX1_playOn_102 : decode cX1_playOn 102 = .ok (.iconst 1, 1) := by decide +kernel
theorem dX1_playOn_103 : decode cX1_playOn 103 = .ok (.isub, 1) := by decide +kernel
theorem dX1_playOn_104 : decode cX1_playOn 104 = .ok (.iload_n 3, 1) := by decide +kernel
theorem dX1_playOn_105 : decode cX1_playOn 105 = .ok (.iload 8, 2) := by decide +kernel
theorem dX1_playOn_107 : decode cX1_playOn 107 = .ok (.ixor, 1) := by decide +kernel
theorem dX1_playOn_108 : decode cX1_playOn 108 = .ok (.iload 4, 2) := by decide +kernel
theorem dX1_playOn_110 : decode cX1_playOn 110 = .ok (.invokevirtual 86, 3) := by decide +kernel
theorem dX1_playOn_113 : decode cX1_playOn 113 = .ok (.invokestatic 101, 3) := by decide +kernel
theorem dX1_playOn_116 : decode cX1_playOn 116 = .ok (.istore 5, 2) := by decide +kernel
theorem dX1_playOn_118 : decode cX1_playOn 118 = .ok (.goto 26, 3) := by decide +kernel
theorem dX1_playOn_121 : decode cX1_playOn 121 = .ok (.iload 5, 2) := by decide +kernel
theorem dX1_playOn_123 : decode cX1_playOn 123 = .ok (.aload_n 0, 1) := by decide +kernel
theorem dX1_playOn_124 : decode cX1_playOn 124 = .ok (.iload_n 1, 1) := by decide +kernel
theorem dX1_playOn_125 : decode cX1_playOn 125 = .ok (.iconst 1, 1) := by decide +kernel
theorem dX1_playOn_126 : decode cX1_playOn 126 = .ok (.iadd, 1) := by decide +kernel
theorem dX1_playOn_127 : decode cX1_playOn 127 = .ok (.iload_n 2, 1) := by decide +kernel
theorem dX1_playOn_128 : decode cX1_playOn 128 = .ok (.iconst 1, 1) := by decide +kernel
theorem dX1_playOn_129 : decode cX1_playOn 129 = .ok (.isub, 1) := by decide +kernel
theorem dX1_playOn_130 : decode cX1_playOn 130 = .ok (.iload_n 3, 1) := by decide +kernel
theorem dX1_playOn_131 : decode cX1_playOn 131 = .ok (.iload 4, 2) := by decide +kernel
theorem dX1_playOn_133 : decode cX1_playOn 133 = .ok (.iload 8, 2) := by decide +kernel
theorem dX1_playOn_135 : decode cX1_playOn 135 = .ok (.ixor, 1) := by decide +kernel
theorem dX1_playOn_136 : decode cX1_playOn 136 = .ok (.invokevirtual 86, 3) := by decide +kernel
theorem dX1_playOn_139 : decode cX1_playOn 139 = .ok (.invokestatic 106, 3) := by decide +kernel
theorem dX1_playOn_142 : decode cX1_playOn 142 = .ok (.istore 5, 2) := by decide +kernel
theorem dX1_playOn_144 : decode cX1_playOn 144 = .ok (.iinc 7 1, 3) := by decide +kernel
theorem dX1_playOn_147 : decode cX1_playOn 147 = .ok (.goto (-80), 3) := by decide +kernel
theorem dX1_playOn_150 : decode cX1_playOn 150 = .ok (.iload 5, 2) := by decide +kernel
theorem dX1_playOn_152 : decode cX1_playOn 152 = .ok (.ireturn, 1) := by decide +kernel
theorem dX1_isSunday_0 : decode cX1_isSunday 0 = .ok (.iload_n 0, 1) := by decide +kernel
theorem dX1_isSunday_1 : decode cX1_isSunday 1 = .ok (.bipush 7, 2) := by decide +kernel
theorem dX1_isSunday_3 : decode cX1_isSunday 3 = .ok (.irem, 1) := by decide +kernel
theorem dX1_isSunday_4 : decode cX1_isSunday 4 = .ok (.bipush 6, 2) := by decide +kernel
theorem dX1_isSunday_6 : decode cX1_isSunday 6 = .ok (.if_icmp .ne 7, 3) := by decide +kernel
theorem dX1_isSunday_9 : decode cX1_isSunday 9 = .ok (.iconst 1, 1) := by decide +kernel
theorem dX1_isSunday_10 : decode cX1_isSunday 10 = .ok (.goto 4, 3) := by decide +kernel
theorem dX1_isSunday_13 : decode cX1_isSunday 13 = .ok (.iconst 0, 1) := by decide +kernel
theorem dX1_isSunday_14 : decode cX1_isSunday 14 = .ok (.ireturn, 1) := by decide +kernel
theorem dX1_kingInTurn_0 : decode cX1_kingInTurn 0 = .ok (.iload_n 0, 1) := by decide +kernel
theorem dX1_kingInTurn_1 : decode cX1_kingInTurn 1 = .ok (.iconst 2, 1) := by decide +kernel
theorem dX1_kingInTurn_2 : decode cX1_kingInTurn 2 = .ok (.irem, 1) := by decide +kernel
theorem dX1_kingInTurn_3 : decode cX1_kingInTurn 3 = .ok (.ifCond .ne 7, 3) := by decide +kernel
theorem dX1_kingInTurn_6 : decode cX1_kingInTurn 6 = .ok (.iconst 0, 1) := by decide +kernel
theorem dX1_kingInTurn_7 : decode cX1_kingInTurn 7 = .ok (.goto 4, 3) := by decide +kernel
theorem dX1_kingInTurn_10 : decode cX1_kingInTurn 10 = .ok (.iconst 1, 1) := by decide +kernel
theorem dX1_kingInTurn_11 : decode cX1_kingInTurn 11 = .ok (.ireturn, 1) := by decide +kernel
theorem dX1_rulerBy_0 : decode cX1_rulerBy 0 = .ok (.aload_n 2, 1) := by decide +kernel
theorem dX1_rulerBy_1 : decode cX1_rulerBy 1 = .ok (.iload_n 0, 1) := by decide +kernel
theorem dX1_rulerBy_2 : decode cX1_rulerBy 2 = .ok (.iconst 0, 1) := by decide +kernel
theorem dX1_rulerBy_3 : decode cX1_rulerBy 3 = .ok (.invokevirtual 109, 3) := by decide +kernel
theorem dX1_rulerBy_6 : decode cX1_rulerBy 6 = .ok (.ifCond .eq 5, 3) := by decide +kernel
theorem dX1_rulerBy_9 : decode cX1_rulerBy 9 = .ok (.iconst 2, 1) := by decide +kernel
theorem dX1_rulerBy_10 : decode cX1_rulerBy 10 = .ok (.ireturn, 1) := by decide +kernel
theorem dX1_rulerBy_11 : decode cX1_rulerBy 11 = .ok (.iload_n 0, 1) := by decide +kernel
theorem dX1_rulerBy_12 : decode cX1_rulerBy 12 = .ok (.invokestatic 77, 3) := by decide +kernel
theorem dX1_rulerBy_15 : decode cX1_rulerBy 15 = .ok (.ifCond .eq 5, 3) := by decide +kernel
theorem dX1_rulerBy_18 : decode cX1_rulerBy 18 = .ok (.iconst (-1), 1) := by decide +kernel
theorem dX1_rulerBy_19 : decode cX1_rulerBy 19 = .ok (.ireturn, 1) := by decide +kernel
theorem dX1_rulerBy_20 : decode cX1_rulerBy 20 = .ok (.iload_n 0, 1) := by decide +kernel
theorem dX1_rulerBy_21 : decode cX1_rulerBy 21 = .ok (.invokestatic 80, 3) := by decide +kernel
theorem dX1_rulerBy_24 : decode cX1_rulerBy 24 = .ok (.istore_n 3, 1) := by decide +kernel
theorem dX1_rulerBy_25 : decode cX1_rulerBy 25 = .ok (.aload_n 1, 1) := by decide +kernel
theorem dX1_rulerBy_26 : decode cX1_rulerBy 26 = .ok (.iload_n 3, 1) := by decide +kernel
theorem dX1_rulerBy_27 : decode cX1_rulerBy 27 = .ok (.iload_n 0, 1) := by decide +kernel
theorem dX1_rulerBy_28 : decode cX1_rulerBy 28 = .ok (.invokevirtual 109, 3) := by decide +kernel
theorem dX1_rulerBy_31 : decode cX1_rulerBy 31 = .ok (.ifCond .ne 5, 3) := by decide +kernel
theorem dX1_rulerBy_34 : decode cX1_rulerBy 34 = .ok (.iload_n 3, 1) := by decide +kernel
theorem dX1_rulerBy_35 : decode cX1_rulerBy 35 = .ok (.ireturn, 1) := by decide +kernel
theorem dX1_rulerBy_36 : decode cX1_rulerBy 36 = .ok (.aload_n 1, 1) := by decide +kernel
theorem dX1_rulerBy_37 : decode cX1_rulerBy 37 = .ok (.iconst 1, 1) := by decide +kernel
theorem dX1_rulerBy_38 : decode cX1_rulerBy 38 = .ok (.iload_n 3, 1) := by decide +kernel
theorem dX1_rulerBy_39 : decode cX1_rulerBy 39 = .ok (.isub, 1) := by decide +kernel
theorem dX1_rulerBy_40 : decode cX1_rulerBy 40 = .ok (.iload_n 0, 1) := by decide +kernel
theorem dX1_rulerBy_41 : decode cX1_rulerBy 41 = .ok (.invokevirtual 109, 3) := by decide +kernel
theorem dX1_rulerBy_44 : decode cX1_rulerBy 44 = .ok (.ifCond .eq 7, 3) := by decide +kernel
theorem dX1_rulerBy_47 : decode cX1_rulerBy 47 = .ok (.iconst (-1), 1) := by decide +kernel
theorem dX1_rulerBy_48 : decode cX1_rulerBy 48 = .ok (.goto 6, 3) := by decide +kernel
theorem dX1_rulerBy_51 : decode cX1_rulerBy 51 = .ok (.iconst 1, 1) := by decide +kernel
theorem dX1_rulerBy_52 : decode cX1_rulerBy 52 = .ok (.iload_n 3, 1) := by decide +kernel
theorem dX1_rulerBy_53 : decode cX1_rulerBy 53 = .ok (.isub, 1) := by decide +kernel
theorem dX1_rulerBy_54 : decode cX1_rulerBy 54 = .ok (.ireturn, 1) := by decide +kernel
theorem dX1_gatherTurned_0 : decode cX1_gatherTurned 0 = .ok (.iconst 0, 1) := by decide +kernel
theorem dX1_gatherTurned_1 : decode cX1_gatherTurned 1 = .ok (.istore_n 3, 1) := by decide +kernel
theorem dX1_gatherTurned_2 : decode cX1_gatherTurned 2 = .ok (.iload_n 3, 1) := by decide +kernel
theorem dX1_gatherTurned_3 : decode cX1_gatherTurned 3 = .ok (.bipush 40, 2) := by decide +kernel
theorem dX1_gatherTurned_5 : decode cX1_gatherTurned 5 = .ok (.if_icmp .ge 16, 3) := by decide +kernel
theorem dX1_gatherTurned_8 : decode cX1_gatherTurned 8 = .ok (.aload_n 0, 1) := by decide +kernel
theorem dX1_gatherTurned_9 : decode cX1_gatherTurned 9 = .ok (.getfield 24, 3) := by decide +kernel
theorem dX1_gatherTurned_12 : decode cX1_gatherTurned 12 = .ok (.iload_n 3, 1) := by decide +kernel
theorem dX1_gatherTurned_13 : decode cX1_gatherTurned 13 = .ok (.iconst 0, 1) := by decide +kernel
theorem dX1_gatherTurned_14 : decode cX1_gatherTurned 14 = .ok (.iastore, 1) := by decide +kernel
theorem dX1_gatherTurned_15 : decode cX1_gatherTurned 15 = .ok (.iinc 3 1, 3) := by decide +kernel
theorem dX1_gatherTurned_18 : decode cX1_gatherTurned 18 = .ok (.goto (-16), 3) := by decide +kernel
theorem dX1_gatherTurned_21 : decode cX1_gatherTurned 21 = .ok (.iconst 0, 1) := by decide +kernel
theorem dX1_gatherTurned_22 : decode cX1_gatherTurned 22 = .ok (.istore_n 3, 1) := by decide +kernel
theorem dX1_gatherTurned_23 : decode cX1_gatherTurned 23 = .ok (.iload_n 3, 1) := by decide +kernel
theorem dX1_gatherTurned_24 : decode cX1_gatherTurned 24 = .ok (.aload_n 1, 1) := by decide +kernel
theorem dX1_gatherTurned_25 : decode cX1_gatherTurned 25 = .ok (.invokevirtual 115, 3) := by decide +kernel
theorem dX1_gatherTurned_28 : decode cX1_gatherTurned 28 = .ok (.if_icmp .ge 65, 3) := by decide +kernel
theorem dX1_gatherTurned_31 : decode cX1_gatherTurned 31 = .ok (.aload_n 1, 1) := by decide +kernel
theorem dX1_gatherTurned_32 : decode cX1_gatherTurned 32 = .ok (.iload_n 3, 1) := by decide +kernel
theorem dX1_gatherTurned_33 : decode cX1_gatherTurned 33 = .ok (.invokevirtual 118, 3) := by decide +kernel
theorem dX1_gatherTurned_36 : decode cX1_gatherTurned 36 = .ok (.istore 4, 2) := by decide +kernel
theorem dX1_gatherTurned_38 : decode cX1_gatherTurned 38 = .ok (.aload_n 1, 1) := by decide +kernel
theorem dX1_gatherTurned_39 : decode cX1_gatherTurned 39 = .ok (.iload_n 3, 1) := by decide +kernel
theorem dX1_gatherTurned_40 : decode cX1_gatherTurned 40 = .ok (.invokevirtual 121, 3) := by decide +kernel
theorem dX1_gatherTurned_43 : decode cX1_gatherTurned 43 = .ok (.istore 5, 2) := by decide +kernel
theorem dX1_gatherTurned_45 : decode cX1_gatherTurned 45 = .ok (.iload_n 3, 1) := by decide +kernel
theorem dX1_gatherTurned_46 : decode cX1_gatherTurned 46 = .ok (.iload_n 2, 1) := by decide +kernel
theorem dX1_gatherTurned_47 : decode cX1_gatherTurned 47 = .ok (.if_icmp .eq 40, 3) := by decide +kernel
theorem dX1_gatherTurned_50 : decode cX1_gatherTurned 50 = .ok (.iload 4, 2) := by decide +kernel
theorem dX1_gatherTurned_52 : decode cX1_gatherTurned 52 = .ok (.invokestatic 55, 3) := by decide +kernel
theorem dX1_gatherTurned_55 : decode cX1_gatherTurned 55 = .ok (.ifCond .eq 32, 3) := by decide +kernel
theorem dX1_gatherTurned_58 : decode cX1_gatherTurned 58 = .ok (.iload 5, 2) := by decide +kernel
theorem dX1_gatherTurned_60 : decode cX1_gatherTurned 60 = .ok (.iconst 0, 1) := by decide +kernel
theorem dX1_gatherTurned_61 : decode cX1_gatherTurned 61 = .ok (.aload_n 0, 1) := by decide +kernel
theorem dX1_gatherTurned_62 : decode cX1_gatherTurned 62 = .ok (.getfield 37, 3) := by decide +kernel
theorem dX1_gatherTurned_65 : decode cX1_gatherTurned 65 = .ok (.iconst 1, 1) := by decide +kernel
theorem dX1_gatherTurned_66 : decode cX1_gatherTurned 66 = .ok (.isub, 1) := by decide +kernel
theorem dX1_gatherTurned_67 : decode cX1_gatherTurned 67 = .ok (.invokestatic 62, 3) := by decide +kernel
theorem dX1_gatherTurned_70 : decode cX1_gatherTurned 70 = .ok (.ifCond .eq 17, 3) := by decide +kernel
theorem dX1_gatherTurned_73 : decode cX1_gatherTurned 73 = .ok (.aload_n 0, 1) := by decide +kernel
theorem dX1_gatherTurned_74 : decode cX1_gatherTurned 74 = .ok (.getfield 24, 3) := by decide +kernel
theorem dX1_gatherTurned_77 : decode cX1_gatherTurned 77 = .ok (.iload 4, 2) := by decide +kernel
theorem dX1_gatherTurned_79 : decode cX1_gatherTurned 79 = .ok (.dup2, 1) := by decide +kernel
theorem dX1_gatherTurned_80 : decode cX1_gatherTurned 80 = .ok (.iaload, 1) := by decide +kernel
theorem dX1_gatherTurned_81 : decode cX1_gatherTurned 81 = .ok (.iconst 1, 1) := by decide +kernel
theorem dX1_gatherTurned_82 : decode cX1_gatherTurned 82 = .ok (.iload 5, 2) := by decide +kernel
theorem dX1_gatherTurned_84 : decode cX1_gatherTurned 84 = .ok (.ishl, 1) := by decide +kernel
theorem dX1_gatherTurned_85 : decode cX1_gatherTurned 85 = .ok (.ixor, 1) := by decide +kernel
theorem dX1_gatherTurned_86 : decode cX1_gatherTurned 86 = .ok (.iastore, 1) := by decide +kernel
theorem dX1_gatherTurned_87 : decode cX1_gatherTurned 87 = .ok (.iinc 3 1, 3) := by decide +kernel
theorem dX1_gatherTurned_90 : decode cX1_gatherTurned 90 = .ok (.goto (-67), 3) := by decide +kernel
theorem dX1_gatherTurned_93 : decode cX1_gatherTurned 93 = .ok (.return_, 1) := by decide +kernel
theorem dX1_openBy_0 : decode cX1_openBy 0 = .ok (.iload_n 1, 1) := by decide +kernel
theorem dX1_openBy_1 : decode cX1_openBy 1 = .ok (.tableswitch 35 0 2 #[27, 29, 31], 27) := by decide +kernel
theorem dX1_openBy_28 : decode cX1_openBy 28 = .ok (.iload_n 2, 1) := by decide +kernel
theorem dX1_openBy_29 : decode cX1_openBy 29 = .ok (.ireturn, 1) := by decide +kernel
theorem dX1_openBy_30 : decode cX1_openBy 30 = .ok (.iload_n 3, 1) := by decide +kernel
theorem dX1_openBy_31 : decode cX1_openBy 31 = .ok (.ireturn, 1) := by decide +kernel
theorem dX1_openBy_32 : decode cX1_openBy 32 = .ok (.iload_n 2, 1) := by decide +kernel
theorem dX1_openBy_33 : decode cX1_openBy 33 = .ok (.iload_n 3, 1) := by decide +kernel
theorem dX1_openBy_34 : decode cX1_openBy 34 = .ok (.iand, 1) := by decide +kernel
theorem dX1_openBy_35 : decode cX1_openBy 35 = .ok (.ireturn, 1) := by decide +kernel
theorem dX1_openBy_36 : decode cX1_openBy 36 = .ok (.aload_n 0, 1) := by decide +kernel
theorem dX1_openBy_37 : decode cX1_openBy 37 = .ok (.invokevirtual 124, 3) := by decide +kernel
theorem dX1_openBy_40 : decode cX1_openBy 40 = .ok (.ireturn, 1) := by decide +kernel
theorem dX2_init_0 : decode cX2_init 0 = .ok (.aload_n 0, 1) := by decide +kernel
theorem dX2_init_1 : decode cX2_init 1 = .ok (.invokespecial 3, 3) := by decide +kernel
theorem dX2_init_4 : decode cX2_init 4 = .ok (.aload_n 0, 1) := by decide +kernel
theorem dX2_init_5 : decode cX2_init 5 = .ok (.bipush 6, 2) := by decide +kernel
theorem dX2_init_7 : decode cX2_init 7 = .ok (.newarray .long, 2) := by decide +kernel
theorem dX2_init_9 : decode cX2_init 9 = .ok (.putfield 9, 3) := by decide +kernel
theorem dX2_init_12 : decode cX2_init 12 = .ok (.aload_n 0, 1) := by decide +kernel
theorem dX2_init_13 : decode cX2_init 13 = .ok (.bipush 6, 2) := by decide +kernel
theorem dX2_init_15 : decode cX2_init 15 = .ok (.newarray .int, 2) := by decide +kernel
theorem dX2_init_17 : decode cX2_init 17 = .ok (.putfield 15, 3) := by decide +kernel
theorem dX2_init_20 : decode cX2_init 20 = .ok (.aload_n 0, 1) := by decide +kernel
theorem dX2_init_21 : decode cX2_init 21 = .ok (.bipush 6, 2) := by decide +kernel
theorem dX2_init_23 : decode cX2_init 23 = .ok (.newarray .int, 2) := by decide +kernel
theorem dX2_init_25 : decode cX2_init 25 = .ok (.putfield 19, 3) := by decide +kernel
theorem dX2_init_28 : decode cX2_init 28 = .ok (.aload_n 0, 1) := by decide +kernel
theorem dX2_init_29 : decode cX2_init 29 = .ok (.bipush 6, 2) := by decide +kernel
theorem dX2_init_31 : decode cX2_init 31 = .ok (.newarray .int, 2) := by decide +kernel
theorem dX2_init_33 : decode cX2_init 33 = .ok (.putfield 22, 3) := by decide +kernel
theorem dX2_init_36 : decode cX2_init 36 = .ok (.aload_n 0, 1) := by decide +kernel
theorem dX2_init_37 : decode cX2_init 37 = .ok (.bipush 6, 2) := by decide +kernel
theorem dX2_init_39 : decode cX2_init 39 = .ok (.newarray .int, 2) := by decide +kernel
theorem dX2_init_41 : decode cX2_init 41 = .ok (.putfield 25, 3) := by decide +kernel
theorem dX2_init_44 : decode cX2_init 44 = .ok (.return_, 1) := by decide +kernel
theorem dX2_prepare_0 : decode cX2_prepare 0 = .ok (.aload_n 0, 1) := by decide +kernel
theorem dX2_prepare_1 : decode cX2_prepare 1 = .ok (.aload_n 1, 1) := by decide +kernel
theorem dX2_prepare_2 : decode cX2_prepare 2 = .ok (.invokevirtual 28, 3) := by decide +kernel
theorem dX2_prepare_5 : decode cX2_prepare 5 = .ok (.bipush 6, 2) := by decide +kernel
theorem dX2_prepare_7 : decode cX2_prepare 7 = .ok (.invokestatic 34, 3) := by decide +kernel
theorem dX2_prepare_10 : decode cX2_prepare 10 = .ok (.putfield 40, 3) := by decide +kernel
theorem dX2_prepare_13 : decode cX2_prepare 13 = .ok (.iconst 0, 1) := by decide +kernel
theorem dX2_prepare_14 : decode cX2_prepare 14 = .ok (.istore_n 3, 1) := by decide +kernel
theorem dX2_prepare_15 : decode cX2_prepare 15 = .ok (.iload_n 3, 1) := by decide +kernel
theorem dX2_prepare_16 : decode cX2_prepare 16 = .ok (.aload_n 0, 1) := by decide +kernel
theorem dX2_prepare_17 : decode cX2_prepare 17 = .ok (.getfield 40, 3) := by decide +kernel
theorem dX2_prepare_20 : decode cX2_prepare 20 = .ok (.if_icmp .ge 41, 3) := by decide +kernel
theorem dX2_prepare_23 : decode cX2_prepare 23 = .ok (.aload_n 0, 1) := by decide +kernel
theorem dX2_prepare_24 : decode cX2_prepare 24 = .ok (.getfield 15, 3) := by decide +kernel
theorem dX2_prepare_27 : decode cX2_prepare 27 = .ok (.iload_n 3, 1) := by decide +kernel
theorem dX2_prepare_28 : decode cX2_prepare 28 = .ok (.aload_n 1, 1) := by decide +kernel
theorem dX2_prepare_29 : decode cX2_prepare 29 = .ok (.iload_n 3, 1) := by decide +kernel
theorem dX2_prepare_30 : decode cX2_prepare 30 = .ok (.invokevirtual 44, 3) := by decide +kernel
theorem dX2_prepare_33 : decode cX2_prepare 33 = .ok (.iastore, 1) := by decide +kernel
theorem dX2_prepare_34 : decode cX2_prepare 34 = .ok (.aload_n 0, 1) := by decide +kernel
theorem dX2_prepare_35 : decode cX2_prepare 35 = .ok (.getfield 9, 3) := by decide +kernel
theorem dX2_prepare_38 : decode cX2_prepare 38 = .ok (.iload_n 3, 1) := by decide +kernel
theorem dX2_prepare_39 : decode cX2_prepare 39 = .ok (.aload_n 2, 1) := by decide +kernel
theorem dX2_prepare_40 : decode cX2_prepare 40 = .ok (.aload_n 1, 1) := by decide +kernel
theorem dX2_prepare_41 : decode cX2_prepare 41 = .ok (.iload_n 3, 1) := by decide +kernel
theorem dX2_prepare_42 : decode cX2_prepare 42 = .ok (.invokevirtual 48, 3) := by decide +kernel
theorem dX2_prepare_45 : decode cX2_prepare 45 = .ok (.aload_n 0, 1) := by decide +kernel
theorem dX2_prepare_46 : decode cX2_prepare 46 = .ok (.getfield 15, 3) := by decide +kernel
theorem dX2_prepare_49 : decode cX2_prepare 49 = .ok (.iload_n 3, 1) := by decide +kernel
theorem dX2_prepare_50 : decode cX2_prepare 50 = .ok (.iaload, 1) := by decide +kernel
theorem dX2_prepare_51 : decode cX2_prepare 51 = .ok (.invokevirtual 51, 3) := by decide +kernel
theorem dX2_prepare_54 : decode cX2_prepare 54 = .ok (.lastore, 1) := by decide +kernel
theorem dX2_prepare_55 : decode cX2_prepare 55 = .ok (.iinc 3 1, 3) := by decide +kernel
theorem dX2_prepare_58 : decode cX2_prepare 58 = .ok (.goto (-43), 3) := by decide +kernel
theorem dX2_prepare_61 : decode cX2_prepare 61 = .ok (.return_, 1) := by decide +kernel
theorem dX2_layInTurn_0 : decode cX2_layInTurn 0 = .ok (.iload_n 1, 1) := by decide +kernel
theorem dX2_layInTurn_1 : decode cX2_layInTurn 1 = .ok (.istore_n 2, 1) := by decide +kernel
theorem dX2_layInTurn_2 : decode cX2_layInTurn 2 = .ok (.iconst 0, 1) := by decide +kernel
theorem dX2_layInTurn_3 : decode cX2_layInTurn 3 = .ok (.istore_n 3, 1) := by decide +kernel
theorem dX2_layInTurn_4 : decode cX2_layInTurn 4 = .ok (.iload_n 3, 1) := by decide +kernel
theorem dX2_layInTurn_5 : decode cX2_layInTurn 5 = .ok (.aload_n 0, 1) := by decide +kernel
theorem dX2_layInTurn_6 : decode cX2_layInTurn 6 = .ok (.getfield 40, 3) := by decide +kernel
theorem dX2_layInTurn_9 : decode cX2_layInTurn 9 = .ok (.if_icmp .ge 47, 3) := by decide +kernel
theorem dX2_layInTurn_12 : decode cX2_layInTurn 12 = .ok (.aload_n 0, 1) := by decide +kernel
theorem dX2_layInTurn_13 : decode cX2_layInTurn 13 = .ok (.getfield 9, 3) := by decide +kernel
theorem dX2_layInTurn_16 : decode cX2_layInTurn 16 = .ok (.iload_n 3, 1) := by decide +kernel
theorem dX2_layInTurn_17 : decode cX2_layInTurn 17 = .ok (.laload, 1) := by decide +kernel
theorem dX2_layInTurn_18 : decode cX2_layInTurn 18 = .ok (.iload_n 2, 1) := by decide +kernel
theorem dX2_layInTurn_19 : decode cX2_layInTurn 19 = .ok (.invokestatic 57, 3) := by decide +kernel
theorem dX2_layInTurn_22 : decode cX2_layInTurn 22 = .ok (.istore 4, 2) := by decide +kernel
theorem dX2_layInTurn_24 : decode cX2_layInTurn 24 = .ok (.iload 4, 2) := by decide +kernel
theorem dX2_layInTurn_26 : decode cX2_layInTurn 26 = .ok (.iconst (-1), 1) := by decide +kernel
theorem dX2_layInTurn_27 : decode cX2_layInTurn 27 = .ok (.if_icmp .ne 5, 3) := by decide +kernel
theorem dX2_layInTurn_30 : decode cX2_layInTurn 30 = .ok (.iconst (-1), 1) := by decide +kernel
theorem dX2_layInTurn_31 : decode cX2_layInTurn 31 = .ok (.ireturn, 1) := by decide +kernel
theorem dX2_layInTurn_32 : decode cX2_layInTurn 32 = .ok (.aload_n 0, 1) := by decide +kernel
theorem dX2_layInTurn_33 : decode cX2_layInTurn 33 = .ok (.getfield 19, 3) := by decide +kernel
theorem dX2_layInTurn_36 : decode cX2_layInTurn 36 = .ok (.iload_n 3, 1) := by decide +kernel
theorem dX2_layInTurn_37 : decode cX2_layInTurn 37 = .ok (.iload 4, 2) := by decide +kernel
theorem dX2_layInTurn_39 : decode cX2_layInTurn 39 = .ok (.iastore, 1) := by decide +kernel
theorem dX2_layInTurn_40 : decode cX2_layInTurn 40 = .ok (.iload 4, 2) := by decide +kernel
theorem dX2_layInTurn_42 : decode cX2_layInTurn 42 = .ok (.aload_n 0, 1) := by decide +kernel
theorem dX2_layInTurn_43 : decode cX2_layInTurn 43 = .ok (.getfield 15, 3) := by decide +kernel
theorem dX2_layInTurn_46 : decode cX2_layInTurn 46 = .ok (.iload_n 3, 1) := by decide +kernel
theorem dX2_layInTurn_47 : decode cX2_layInTurn 47 = .ok (.iaload, 1) := by decide +kernel
theorem dX2_layInTurn_48 : decode cX2_layInTurn 48 = .ok (.iadd, 1) := by decide +kernel
theorem dX2_layInTurn_49 : decode cX2_layInTurn 49 = .ok (.istore_n 2, 1) := by decide +kernel
theorem dX2_layInTurn_50 : decode cX2_layInTurn 50 = .ok (.iinc 3 1, 3) := by decide +kernel
theorem dX2_layInTurn_53 : decode cX2_layInTurn 53 = .ok (.goto (-49), 3) := by decide +kernel
theorem dX2_layInTurn_56 : decode cX2_layInTurn 56 = .ok (.aload_n 0, 1) := by decide +kernel
theorem dX2_layInTurn_57 : decode cX2_layInTurn 57 = .ok (.getfield 40, 3) := by decide +kernel
theorem dX2_layInTurn_60 : decode cX2_layInTurn 60 = .ok (.ifCond .ne 7, 3) := by decide +kernel
theorem dX2_layInTurn_63 : decode cX2_layInTurn 63 = .ok (.iconst (-1), 1) := by decide +kernel
theorem dX2_layInTurn_64 : decode cX2_layInTurn 64 = .ok (.goto 6, 3) := by decide +kernel
theorem dX2_layInTurn_67 : decode cX2_layInTurn 67 = .ok (.iload_n 2, 1) := by decide +kernel
theorem dX2_layInTurn_68 : decode cX2_layInTurn 68 = .ok (.iconst 1, 1) := by decide +kernel
theorem dX2_layInTurn_69 : decode cX2_layInTurn 69 = .ok (.isub, 1) := by decide +kernel
theorem dX2_layInTurn_70 : decode cX2_layInTurn 70 = .ok (.ireturn, 1) := by decide +kernel
theorem dX2_startInTurn_0 : decode cX2_startInTurn 0 = .ok (.iload_n 1, 1) := by decide +kernel
theorem dX2_startInTurn_1 : decode cX2_startInTurn 1 = .ok (.iconst 0, 1) := by decide +kernel
theorem dX2_startInTurn_2 : decode cX2_startInTurn 2 = .ok (.aload_n 0, 1) := by decide +kernel
theorem dX2_startInTurn_3 : decode cX2_startInTurn 3 = .ok (.getfield 40, 3) := by decide +kernel
theorem dX2_startInTurn_6 : decode cX2_startInTurn 6 = .ok (.iconst 1, 1) := by decide +kernel
theorem dX2_startInTurn_7 : decode cX2_startInTurn 7 = .ok (.isub, 1) := by decide +kernel
theorem dX2_startInTurn_8 : decode cX2_startInTurn 8 = .ok (.invokestatic 61, 3) := by decide +kernel
theorem dX2_startInTurn_11 : decode cX2_startInTurn 11 = .ok (.ifCond .eq 12, 3) := by decide +kernel
theorem dX2_startInTurn_14 : decode cX2_startInTurn 14 = .ok (.aload_n 0, 1) := by decide +kernel
theorem dX2_startInTurn_15 : decode cX2_startInTurn 15 = .ok (.getfield 19, 3) := by decide +kernel
theorem dX2_startInTurn_18 : decode cX2_startInTurn 18 = .ok (.iload_n 1, 1) := by decide +kernel
theorem dX2_startInTurn_19 : decode cX2_startInTurn 19 = .ok (.iaload, 1) := by decide +kernel
theorem dX2_startInTurn_20 : decode cX2_startInTurn 20 = .ok (.goto 4, 3) := by decide +kernel
theorem dX2_startInTurn_23 : decode cX2_startInTurn 23 = .ok (.iconst (-1), 1) := by decide +kernel
theorem dX2_startInTurn_24 : decode cX2_startInTurn 24 = .ok (.ireturn, 1) := by decide +kernel
theorem dX2_findBestRow_0 : decode cX2_findBestRow 0 = .ok (.aload_n 0, 1) := by decide +kernel
theorem dX2_findBestRow_1 : decode cX2_findBestRow 1 = .ok (.bipush 40, 2) := by decide +kernel
theorem dX2_findBestRow_3 : decode cX2_findBestRow 3 = .ok (.putfield 65, 3) := by decide +kernel
theorem dX2_findBestRow_6 : decode cX2_findBestRow 6 = .ok (.aload_n 0, 1) := by decide +kernel
theorem dX2_findBestRow_7 : decode cX2_findBestRow 7 = .ok (.getfield 40, 3) := by decide +kernel
theorem dX2_findBestRow_10 : decode cX2_findBestRow 10 = .ok (.ifCond .le 10, 3) := by decide +kernel
theorem dX2_findBestRow_13 : decode cX2_findBestRow 13 = .ok (.aload_n 0, 1) := by decide +kernel
theorem dX2_findBestRow_14 : decode cX2_findBestRow 14 = .ok (.iconst 0, 1) := by decide +kernel
theorem dX2_findBestRow_15 : decode cX2_findBestRow 15 = .ok (.iload_n 1, 1) := by decide +kernel
theorem dX2_findBestRow_16 : decode cX2_findBestRow 16 = .ok (.iconst 0, 1) := by decide +kernel
theorem dX2_findBestRow_17 : decode cX2_findBestRow 17 = .ok (.invokevirtual 68, 3) := by decide +kernel
theorem dX2_findBestRow_20 : decode cX2_findBestRow 20 = .ok (.aload_n 0, 1) := by decide +kernel
theorem dX2_findBestRow_21 : decode cX2_findBestRow 21 = .ok (.getfield 65, 3) := by decide +kernel
theorem dX2_findBestRow_24 : decode cX2_findBestRow 24 = .ok (.bipush 40, 2) := by decide +kernel
theorem dX2_findBestRow_26 : decode cX2_findBestRow 26 = .ok (.if_icmp .ne 7, 3) := by decide +kernel
theorem dX2_findBestRow_29 : decode cX2_findBestRow 29 = .ok (.iconst (-1), 1) := by decide +kernel
theorem dX2_findBestRow_30 : decode cX2_findBestRow 30 = .ok (.goto 7, 3) := by decide +kernel
theorem dX2_findBestRow_33 : decode cX2_findBestRow 33 = .ok (.aload_n 0, 1) := by decide +kernel
theorem dX2_findBestRow_34 : decode cX2_findBestRow 34 = .ok (.getfield 65, 3) := by decide +kernel
theorem dX2_findBestRow_37 : decode cX2_findBestRow 37 = .ok (.ireturn, 1) := by decide +kernel
theorem dX2_taskInBestRow_0 : decode cX2_taskInBestRow 0 = .ok (.iload_n 1, 1) := by decide +kernel
theorem dX2_taskInBestRow_1 : decode cX2_taskInBestRow 1 = .ok (.iconst 0, 1) := by decide +kernel
theorem dX2_taskInBestRow_2 : decode cX2_taskInBestRow 2 = .ok (.aload_n 0, 1) := by decide +kernel
theorem dX2_taskInBestRow_3 : decode cX2_taskInBestRow 3 = .ok (.getfield 40, 3) := by decide +kernel
theorem dX2_taskInBestRow_6 : decode cX2_taskInBestRow 6 = .ok (.iconst 1, 1) := by decide +kernel
theorem dX2_taskInBestRow_7 : decode cX2_taskInBestRow 7 = .ok (.isub, 1) := by decide +kernel
theorem dX2_taskInBestRow_8 : decode cX2_taskInBestRow 8 = .ok (.invokestatic 61, 3) := by decide +kernel
theorem dX2_taskInBestRow_11 : decode cX2_taskInBestRow 11 = .ok (.ifCond .eq 12, 3) := by decide +kernel
theorem dX2_taskInBestRow_14 : decode cX2_taskInBestRow 14 = .ok (.aload_n 0, 1) := by decide +kernel
theorem dX2_taskInBestRow_15 : decode cX2_taskInBestRow 15 = .ok (.getfield 25, 3) := by decide +kernel
theorem dX2_taskInBestRow_18 : decode cX2_taskInBestRow 18 = .ok (.iload_n 1, 1) := by decide +kernel
theorem dX2_taskInBestRow_19 : decode cX2_taskInBestRow 19 = .ok (.iaload, 1) := by decide +kernel
theorem dX2_taskInBestRow_20 : decode cX2_taskInBestRow 20 = .ok (.goto 4, 3) := by decide +kernel
theorem dX2_taskInBestRow_23 : decode cX2_taskInBestRow 23 = .ok (.iconst (-1), 1) := by decide +kernel
theorem dX2_taskInBestRow_24 : decode cX2_taskInBestRow 24 = .ok (.ireturn, 1) := by decide +kernel
theorem dX2_search_0 : decode cX2_search 0 = .ok (.iload_n 1, 1) := by decide +kernel
theorem dX2_search_1 : decode cX2_search 1 = .ok (.aload_n 0, 1) := by decide +kernel
theorem dX2_search_2 : decode cX2_search 2 = .ok (.getfield 40, 3) := by decide +kernel
theorem dX2_search_5 : decode cX2_search 5 = .ok (.if_icmp .lt 15, 3) := by decide +kernel
theorem dX2_search_8 : decode cX2_search 8 = .ok (.aload_n 0, 1) := by decide +kernel
theorem dX2_search_9 : decode cX2_search 9 = .ok (.iload_n 2, 1) := by decide +kernel
theorem dX2_search_10 : decode cX2_search 10 = .ok (.iconst 1, 1) := by decide +kernel
theorem dX2_search_11 : decode cX2_search 11 = .ok (.isub, 1) := by decide +kernel
theorem dX2_search_12 : decode cX2_search 12 = .ok (.putfield 65, 3) := by decide +kernel
theorem dX2_search_15 : decode cX2_search 15 = .ok (.aload_n 0, 1) := by decide +kernel
theorem dX2_search_16 : decode cX2_search 16 = .ok (.invokevirtual 72, 3) := by decide +kernel
theorem dX2_search_19 : decode cX2_search 19 = .ok (.return_, 1) := by decide +kernel
theorem dX2_search_20 : decode cX2_search 20 = .ok (.iconst 0, 1) := by decide +kernel
theorem dX2_search_21 : decode cX2_search 21 = .ok (.istore 4, 2) := by decide +kernel
theorem dX2_search_23 : decode cX2_search 23 = .ok (.iload 4, 2) := by decide +kernel
theorem dX2_search_25 : decode cX2_search 25 = .ok (.aload_n 0, 1) := by decide +kernel
theorem dX2_search_26 : decode cX2_search 26 = .ok (.getfield 40, 3) := by decide +kernel
theorem dX2_search_29 : decode cX2_search 29 = .ok (.if_icmp .ge 85, 3) := by decide +kernel
theorem dX2_search_32 : decode cX2_search 32 = .ok (.aload_n 0, 1) := by decide +kernel
theorem dX2_search_33 : decode cX2_search 33 = .ok (.getfield 9, 3) := by decide +kernel
theorem dX2_search_36 : decode cX2_search 36 = .ok (.iload 4, 2) := by decide +kernel
theorem dX2_search_38 : decode cX2_search 38 = .ok (.laload, 1) := by decide +kernel
theorem dX2_search_39 : decode cX2_search 39 = .ok (.iload_n 2, 1) := by decide +kernel
theorem dX2_search_40 : decode cX2_search 40 = .ok (.invokestatic 57, 3) := by decide +kernel
theorem dX2_search_43 : decode cX2_search 43 = .ok (.istore 5, 2) := by decide +kernel
theorem dX2_search_45 : decode cX2_search 45 = .ok (.iload 5, 2) := by decide +kernel
theorem dX2_search_47 : decode cX2_search 47 = .ok (.aload_n 0, 1) := by decide +kernel
theorem dX2_search_48 : decode cX2_search 48 = .ok (.getfield 15, 3) := by decide +kernel
theorem dX2_search_51 : decode cX2_search 51 = .ok (.iload 4, 2) := by decide +kernel
theorem dX2_search_53 : decode cX2_search 53 = .ok (.iaload, 1) := by decide +kernel
theorem dX2_search_54 : decode cX2_search 54 = .ok (.iadd, 1) := by decide +kernel
theorem dX2_search_55 : decode cX2_search 55 = .ok (.iconst 1, 1) := by decide +kernel
theorem dX2_search_56 : decode cX2_search 56 = .ok (.isub, 1) := by decide +kernel
theorem dX2_search_57 : decode cX2_search 57 = .ok (.istore 6, 2) := by decide +kernel
theorem dX2_search_59 : decode cX2_search 59 = .ok (.iload_n 3, 1) := by decide +kernel
theorem dX2_search_60 : decode cX2_search 60 = .ok (.iload 4, 2) := by decide +kernel
theorem dX2_search_62 : decode cX2_search 62 = .ok (.invokestatic 75, 3) := by decide +kernel
theorem dX2_search_65 : decode cX2_search 65 = .ok (.ifCond .ne 43, 3) := by decide +kernel
theorem dX2_search_68 : decode cX2_search 68 = .ok (.iload 5, 2) := by decide +kernel
theorem dX2_search_70 : decode cX2_search 70 = .ok (.iconst (-1), 1) := by decide +kernel
theorem dX2_search_71 : decode cX2_search 71 = .ok (.if_icmp .eq 37, 3) := by decide +kernel
theorem dX2_search_74 : decode cX2_search 74 = .ok (.iload 6, 2) := by decide +kernel
theorem dX2_search_76 : decode cX2_search 76 = .ok (.aload_n 0, 1) := by decide +kernel
theorem dX2_search_77 : decode cX2_search 77 = .ok (.getfield 65, 3) := by decide +kernel
theorem dX2_search_80 : decode cX2_search 80 = .ok (.if_icmp .ge 28, 3) := by decide +kernel
theorem dX2_search_83 : decode cX2_search 83 = .ok (.aload_n 0, 1) := by decide +kernel
theorem dX2_search_84 : decode cX2_search 84 = .ok (.getfield 22, 3) := by decide +kernel
theorem dX2_search_87 : decode cX2_search 87 = .ok (.iload_n 1, 1) := by decide +kernel
theorem dX2_search_88 : decode cX2_search 88 = .ok (.iload 4, 2) := by decide +kernel
theorem dX2_search_90 : decode cX2_search 90 = .ok (.iastore, 1) := by decide +kernel
theorem dX2_search_91 : decode cX2_search 91 = .ok (.aload_n 0, 1) := by decide +kernel
theorem dX2_search_92 : decode cX2_search 92 = .ok (.iload_n 1, 1) := by decide +kernel
theorem dX2_search_93 : decode cX2_search 93 = .ok (.iconst 1, 1) := by decide +kernel
theorem dX2_search_94 : decode cX2_search 94 = .ok (.iadd, 1) := by decide +kernel
theorem dX2_search_95 : decode cX2_search 95 = .ok (.iload 6, 2) := by decide +kernel
theorem dX2_search_97 : decode cX2_search 97 = .ok (.iconst 1, 1) := by decide +kernel
theorem dX2_search_98 : decode cX2_search 98 = .ok (.iadd, 1) := by decide +kernel
theorem dX2_search_99 : decode cX2_search 99 = .ok (.iload_n 3, 1) := by decide +kernel
theorem dX2_search_100 : decode cX2_search 100 = .ok (.iconst 1, 1) := by decide +kernel
theorem dX2_search_101 : decode cX2_search 101 = .ok (.iload 4, 2) := by decide +kernel
theorem dX2_search_103 : decode cX2_search 103 = .ok (.ishl, 1) := by decide +kernel
theorem dX2_search_104 : decode cX2_search 104 = .ok (.ior, 1) := by decide +kernel
theorem dX2_search_105 : decode cX2_search 105 = .ok (.invokevirtual 68, 3) := by decide +kernel
theorem dX2_search_108 : decode cX2_search 108 = .ok (.iinc 4 1, 3) := by decide +kernel
theorem dX2_search_111 : decode cX2_search 111 = .ok (.goto (-88), 3) := by decide +kernel
theorem dX2_search_114 : decode cX2_search 114 = .ok (.return_, 1) := by decide +kernel
theorem dX2_keepRow_0 : decode cX2_keepRow 0 = .ok (.iconst 0, 1) := by decide +kernel
theorem dX2_keepRow_1 : decode cX2_keepRow 1 = .ok (.istore_n 1, 1) := by decide +kernel
theorem dX2_keepRow_2 : decode cX2_keepRow 2 = .ok (.iload_n 1, 1) := by decide +kernel
theorem dX2_keepRow_3 : decode cX2_keepRow 3 = .ok (.aload_n 0, 1) := by decide +kernel
theorem dX2_keepRow_4 : decode cX2_keepRow 4 = .ok (.getfield 40, 3) := by decide +kernel
theorem dX2_keepRow_7 : decode cX2_keepRow 7 = .ok (.if_icmp .ge 21, 3) := by decide +kernel
theorem dX2_keepRow_10 : decode cX2_keepRow 10 = .ok (.aload_n 0, 1) := by decide +kernel
theorem dX2_keepRow_11 : decode cX2_keepRow 11 = .ok (.getfield 25, 3) := by decide +kernel
theorem dX2_keepRow_14 : decode cX2_keepRow 14 = .ok (.iload_n 1, 1) := by decide +kernel
theorem dX2_keepRow_15 : decode cX2_keepRow 15 = .ok (.aload_n 0, 1) := by decide +kernel
theorem dX2_keepRow_16 : decode cX2_keepRow 16 = .ok (.getfield 22, 3) := by decide +kernel
theorem dX2_keepRow_19 : decode cX2_keepRow 19 = .ok (.iload_n 1, 1) := by decide +kernel
theorem dX2_keepRow_20 : decode cX2_keepRow 20 = .ok (.iaload, 1) := by decide +kernel
theorem dX2_keepRow_21 : decode cX2_keepRow 21 = .ok (.iastore, 1) := by decide +kernel
theorem dX2_keepRow_22 : decode cX2_keepRow 22 = .ok (.iinc 1 1, 3) := by decide +kernel
theorem dX2_keepRow_25 : decode cX2_keepRow 25 = .ok (.goto (-23), 3) := by decide +kernel
theorem dX2_keepRow_28 : decode cX2_keepRow 28 = .ok (.return_, 1) := by decide +kernel
theorem dX3_init_0 : decode cX3_init 0 = .ok (.aload_n 0, 1) := by decide +kernel
theorem dX3_init_1 : decode cX3_init 1 = .ok (.invokespecial 3, 3) := by decide +kernel
theorem dX3_init_4 : decode cX3_init 4 = .ok (.aload_n 0, 1) := by decide +kernel
theorem dX3_init_5 : decode cX3_init 5 = .ok (.iload_n 1, 1) := by decide +kernel
theorem dX3_init_6 : decode cX3_init 6 = .ok (.iconst 0, 1) := by decide +kernel
theorem dX3_init_7 : decode cX3_init 7 = .ok (.invokestatic 9, 3) := by decide +kernel
theorem dX3_init_10 : decode cX3_init 10 = .ok (.putfield 15, 3) := by decide +kernel
theorem dX3_init_13 : decode cX3_init 13 = .ok (.aload_n 0, 1) := by decide +kernel
theorem dX3_init_14 : decode cX3_init 14 = .ok (.aload_n 0, 1) := by decide +kernel
theorem dX3_init_15 : decode cX3_init 15 = .ok (.getfield 15, 3) := by decide +kernel
theorem dX3_init_18 : decode cX3_init 18 = .ok (.newarray .int, 2) := by decide +kernel
theorem dX3_init_20 : decode cX3_init 20 = .ok (.putfield 21, 3) := by decide +kernel
theorem dX3_init_23 : decode cX3_init 23 = .ok (.aload_n 0, 1) := by decide +kernel
theorem dX3_init_24 : decode cX3_init 24 = .ok (.aload_n 0, 1) := by decide +kernel
theorem dX3_init_25 : decode cX3_init 25 = .ok (.getfield 15, 3) := by decide +kernel
theorem dX3_init_28 : decode cX3_init 28 = .ok (.newarray .int, 2) := by decide +kernel
theorem dX3_init_30 : decode cX3_init 30 = .ok (.putfield 25, 3) := by decide +kernel
theorem dX3_init_33 : decode cX3_init 33 = .ok (.aload_n 0, 1) := by decide +kernel
theorem dX3_init_34 : decode cX3_init 34 = .ok (.aload_n 0, 1) := by decide +kernel
theorem dX3_init_35 : decode cX3_init 35 = .ok (.getfield 15, 3) := by decide +kernel
theorem dX3_init_38 : decode cX3_init 38 = .ok (.newarray .int, 2) := by decide +kernel
theorem dX3_init_40 : decode cX3_init 40 = .ok (.putfield 28, 3) := by decide +kernel
theorem dX3_init_43 : decode cX3_init 43 = .ok (.return_, 1) := by decide +kernel
theorem dX3_size_0 : decode cX3_size 0 = .ok (.aload_n 0, 1) := by decide +kernel
theorem dX3_size_1 : decode cX3_size 1 = .ok (.getfield 31, 3) := by decide +kernel
theorem dX3_size_4 : decode cX3_size 4 = .ok (.ireturn, 1) := by decide +kernel
theorem dX3_add_0 : decode cX3_add 0 = .ok (.aload_n 0, 1) := by decide +kernel
theorem dX3_add_1 : decode cX3_add 1 = .ok (.getfield 31, 3) := by decide +kernel
theorem dX3_add_4 : decode cX3_add 4 = .ok (.aload_n 0, 1) := by decide +kernel
theorem dX3_add_5 : decode cX3_add 5 = .ok (.getfield 15, 3) := by decide +kernel
theorem dX3_add_8 : decode cX3_add 8 = .ok (.if_icmp .lt 6, 3) := by decide +kernel
theorem dX3_add_11 : decode cX3_add 11 = .ok (.bipush (-4), 2) := by decide +kernel
theorem dX3_add_13 : decode cX3_add 13 = .ok (.ireturn, 1) := by decide +kernel
theorem dX3_add_14 : decode cX3_add 14 = .ok (.aload_n 0, 1) := by decide +kernel
theorem dX3_add_15 : decode cX3_add 15 = .ok (.getfield 21, 3) := by decide +kernel
theorem dX3_add_18 : decode cX3_add 18 = .ok (.aload_n 0, 1) := by decide +kernel
theorem dX3_add_19 : decode cX3_add 19 = .ok (.getfield 31, 3) := by decide +kernel
theorem dX3_add_22 : decode cX3_add 22 = .ok (.iload_n 1, 1) := by decide +kernel
theorem dX3_add_23 : decode cX3_add 23 = .ok (.iastore, 1) := by decide +kernel
theorem dX3_add_24 : decode cX3_add 24 = .ok (.aload_n 0, 1) := by decide +kernel
theorem dX3_add_25 : decode cX3_add 25 = .ok (.getfield 25, 3) := by decide +kernel
theorem dX3_add_28 : decode cX3_add 28 = .ok (.aload_n 0, 1) := by decide +kernel
theorem dX3_add_29 : decode cX3_add 29 = .ok (.getfield 31, 3) := by decide +kernel
theorem dX3_add_32 : decode cX3_add 32 = .ok (.iload_n 2, 1) := by decide +kernel
theorem dX3_add_33 : decode cX3_add 33 = .ok (.iastore, 1) := by decide +kernel
theorem dX3_add_34 : decode cX3_add 34 = .ok (.aload_n 0, 1) := by decide +kernel
theorem dX3_add_35 : decode cX3_add 35 = .ok (.getfield 28, 3) := by decide +kernel
theorem dX3_add_38 : decode cX3_add 38 = .ok (.aload_n 0, 1) := by decide +kernel
theorem dX3_add_39 : decode cX3_add 39 = .ok (.getfield 31, 3) := by decide +kernel
theorem dX3_add_42 : decode cX3_add 42 = .ok (.iload_n 3, 1) := by decide +kernel
theorem dX3_add_43 : decode cX3_add 43 = .ok (.iastore, 1) := by decide +kernel
theorem dX3_add_44 : decode cX3_add 44 = .ok (.aload_n 0, 1) := by decide +kernel
theorem dX3_add_45 : decode cX3_add 45 = .ok (.dup, 1) := by decide +kernel
theorem dX3_add_46 : decode cX3_add 46 = .ok (.getfield 31, 3) := by decide +kernel
theorem dX3_add_49 : decode cX3_add 49 = .ok (.iconst 1, 1) := by decide +kernel
theorem dX3_add_50 : decode cX3_add 50 = .ok (.iadd, 1) := by decide +kernel
theorem dX3_add_51 : decode cX3_add 51 = .ok (.putfield 31, 3) := by decide +kernel
theorem dX3_add_54 : decode cX3_add 54 = .ok (.aload_n 0, 1) := by decide +kernel
theorem dX3_add_55 : decode cX3_add 55 = .ok (.getfield 31, 3) := by decide +kernel
theorem dX3_add_58 : decode cX3_add 58 = .ok (.ireturn, 1) := by decide +kernel
theorem dX3_dropLast_0 : decode cX3_dropLast 0 = .ok (.aload_n 0, 1) := by decide +kernel
theorem dX3_dropLast_1 : decode cX3_dropLast 1 = .ok (.getfield 31, 3) := by decide +kernel
theorem dX3_dropLast_4 : decode cX3_dropLast 4 = .ok (.ifCond .ne 6, 3) := by decide +kernel
theorem dX3_dropLast_7 : decode cX3_dropLast 7 = .ok (.bipush (-3), 2) := by decide +kernel
theorem dX3_dropLast_9 : decode cX3_dropLast 9 = .ok (.ireturn, 1) := by decide +kernel
theorem dX3_dropLast_10 : decode cX3_dropLast 10 = .ok (.aload_n 0, 1) := by decide +kernel
theorem dX3_dropLast_11 : decode cX3_dropLast 11 = .ok (.dup, 1) := by decide +kernel
theorem dX3_dropLast_12 : decode cX3_dropLast 12 = .ok (.getfield 31, 3) := by decide +kernel
theorem dX3_dropLast_15 : decode cX3_dropLast 15 = .ok (.iconst 1, 1) := by decide +kernel
theorem dX3_dropLast_16 : decode cX3_dropLast 16 = .ok (.isub, 1) := by decide +kernel
theorem dX3_dropLast_17 : decode cX3_dropLast 17 = .ok (.putfield 31, 3) := by decide +kernel
theorem dX3_dropLast_20 : decode cX3_dropLast 20 = .ok (.aload_n 0, 1) := by decide +kernel
theorem dX3_dropLast_21 : decode cX3_dropLast 21 = .ok (.getfield 31, 3) := by decide +kernel
theorem dX3_dropLast_24 : decode cX3_dropLast 24 = .ok (.ireturn, 1) := by decide +kernel
theorem dX3_clear_0 : decode cX3_clear 0 = .ok (.aload_n 0, 1) := by decide +kernel
theorem dX3_clear_1 : decode cX3_clear 1 = .ok (.getfield 31, 3) := by decide +kernel
theorem dX3_clear_4 : decode cX3_clear 4 = .ok (.istore_n 1, 1) := by decide +kernel
theorem dX3_clear_5 : decode cX3_clear 5 = .ok (.aload_n 0, 1) := by decide +kernel
theorem dX3_clear_6 : decode cX3_clear 6 = .ok (.iconst 0, 1) := by decide +kernel
theorem dX3_clear_7 : decode cX3_clear 7 = .ok (.putfield 31, 3) := by decide +kernel
theorem dX3_clear_10 : decode cX3_clear 10 = .ok (.iload_n 1, 1) := by decide +kernel
theorem dX3_clear_11 : decode cX3_clear 11 = .ok (.ireturn, 1) := by decide +kernel
theorem dX3_first_0 : decode cX3_first 0 = .ok (.iload_n 1, 1) := by decide +kernel
theorem dX3_first_1 : decode cX3_first 1 = .ok (.iconst 0, 1) := by decide +kernel
theorem dX3_first_2 : decode cX3_first 2 = .ok (.aload_n 0, 1) := by decide +kernel
theorem dX3_first_3 : decode cX3_first 3 = .ok (.getfield 31, 3) := by decide +kernel
theorem dX3_first_6 : decode cX3_first 6 = .ok (.iconst 1, 1) := by decide +kernel
theorem dX3_first_7 : decode cX3_first 7 = .ok (.isub, 1) := by decide +kernel
theorem dX3_first_8 : decode cX3_first 8 = .ok (.invokestatic 34, 3) := by decide +kernel
theorem dX3_first_11 : decode cX3_first 11 = .ok (.ifCond .eq 12, 3) := by decide +kernel
theorem dX3_first_14 : decode cX3_first 14 = .ok (.aload_n 0, 1) := by decide +kernel
theorem dX3_first_15 : decode cX3_first 15 = .ok (.getfield 21, 3) := by decide +kernel
theorem dX3_first_18 : decode cX3_first 18 = .ok (.iload_n 1, 1) := by decide +kernel
theorem dX3_first_19 : decode cX3_first 19 = .ok (.iaload, 1) := by decide +kernel
theorem dX3_first_20 : decode cX3_first 20 = .ok (.goto 4, 3) := by decide +kernel
theorem dX3_first_23 : decode cX3_first 23 = .ok (.iconst (-1), 1) := by decide +kernel
theorem dX3_first_24 : decode cX3_first 24 = .ok (.ireturn, 1) := by decide +kernel
theorem dX3_second_0 : decode cX3_second 0 = .ok (.iload_n 1, 1) := by decide +kernel
theorem dX3_second_1 : decode cX3_second 1 = .ok (.iconst 0, 1) := by decide +kernel
theorem dX3_second_2 : decode cX3_second 2 = .ok (.aload_n 0, 1) := by decide +kernel
theorem dX3_second_3 : decode cX3_second 3 = .ok (.getfield 31, 3) := by decide +kernel
theorem dX3_second_6 : decode cX3_second 6 = .ok (.iconst 1, 1) := by decide +kernel
theorem dX3_second_7 : decode cX3_second 7 = .ok (.isub, 1) := by decide +kernel
theorem dX3_second_8 : decode cX3_second 8 = .ok (.invokestatic 34, 3) := by decide +kernel
theorem dX3_second_11 : decode cX3_second 11 = .ok (.ifCond .eq 12, 3) := by decide +kernel
theorem dX3_second_14 : decode cX3_second 14 = .ok (.aload_n 0, 1) := by decide +kernel
theorem dX3_second_15 : decode cX3_second 15 = .ok (.getfield 25, 3) := by decide +kernel
theorem dX3_second_18 : decode cX3_second 18 = .ok (.iload_n 1, 1) := by decide +kernel
theorem dX3_second_19 : decode cX3_second 19 = .ok (.iaload, 1) := by decide +kernel
theorem dX3_second_20 : decode cX3_second 20 = .ok (.goto 4, 3) := by decide +kernel
theorem dX3_second_23 : decode cX3_second 23 = .ok (.iconst (-1), 1) := by decide +kernel
theorem dX3_second_24 : decode cX3_second 24 = .ok (.ireturn, 1) := by decide +kernel
theorem dX3_third_0 : decode cX3_third 0 = .ok (.iload_n 1, 1) := by decide +kernel
theorem dX3_third_1 : decode cX3_third 1 = .ok (.iconst 0, 1) := by decide +kernel
theorem dX3_third_2 : decode cX3_third 2 = .ok (.aload_n 0, 1) := by decide +kernel
theorem dX3_third_3 : decode cX3_third 3 = .ok (.getfield 31, 3) := by decide +kernel
theorem dX3_third_6 : decode cX3_third 6 = .ok (.iconst 1, 1) := by decide +kernel
theorem dX3_third_7 : decode cX3_third 7 = .ok (.isub, 1) := by decide +kernel
theorem dX3_third_8 : decode cX3_third 8 = .ok (.invokestatic 34, 3) := by decide +kernel
theorem dX3_third_11 : decode cX3_third 11 = .ok (.ifCond .eq 12, 3) := by decide +kernel
theorem dX3_third_14 : decode cX3_third 14 = .ok (.aload_n 0, 1) := by decide +kernel
theorem dX3_third_15 : decode cX3_third 15 = .ok (.getfield 28, 3) := by decide +kernel
theorem dX3_third_18 : decode cX3_third 18 = .ok (.iload_n 1, 1) := by decide +kernel
theorem dX3_third_19 : decode cX3_third 19 = .ok (.iaload, 1) := by decide +kernel
theorem dX3_third_20 : decode cX3_third 20 = .ok (.goto 4, 3) := by decide +kernel
theorem dX3_third_23 : decode cX3_third 23 = .ok (.iconst (-1), 1) := by decide +kernel
theorem dX3_third_24 : decode cX3_third 24 = .ok (.ireturn, 1) := by decide +kernel
theorem dX3_holds_0 : decode cX3_holds 0 = .ok (.iconst 0, 1) := by decide +kernel
theorem dX3_holds_1 : decode cX3_holds 1 = .ok (.istore_n 3, 1) := by decide +kernel
theorem dX3_holds_2 : decode cX3_holds 2 = .ok (.iload_n 3, 1) := by decide +kernel
theorem dX3_holds_3 : decode cX3_holds 3 = .ok (.aload_n 0, 1) := by decide +kernel
theorem dX3_holds_4 : decode cX3_holds 4 = .ok (.getfield 31, 3) := by decide +kernel
theorem dX3_holds_7 : decode cX3_holds 7 = .ok (.if_icmp .ge 31, 3) := by decide +kernel
theorem dX3_holds_10 : decode cX3_holds 10 = .ok (.aload_n 0, 1) := by decide +kernel
theorem dX3_holds_11 : decode cX3_holds 11 = .ok (.getfield 21, 3) := by decide +kernel
theorem dX3_holds_14 : decode cX3_holds 14 = .ok (.iload_n 3, 1) := by decide +kernel
theorem dX3_holds_15 : decode cX3_holds 15 = .ok (.iaload, 1) := by decide +kernel
theorem dX3_holds_16 : decode cX3_holds 16 = .ok (.iload_n 1, 1) := by decide +kernel
theorem dX3_holds_17 : decode cX3_holds 17 = .ok (.if_icmp .ne 15, 3) := by decide +kernel
theorem dX3_holds_20 : decode cX3_holds 20 = .ok (.aload_n 0, 1) := by decide +kernel
theorem dX3_holds_21 : decode cX3_holds 21 = .ok (.getfield 25, 3) := by decide +kernel
theorem dX3_holds_24 : decode cX3_holds 24 = .ok (.iload_n 3, 1) := by decide +kernel
theorem dX3_holds_25 : decode cX3_holds 25 = .ok (.iaload, 1) := by decide +kernel
theorem dX3_holds_26 : decode cX3_holds 26 = .ok (.iload_n 2, 1) := by decide +kernel
theorem dX3_holds_27 : decode cX3_holds 27 = .ok (.if_icmp .ne 5, 3) := by decide +kernel
theorem dX3_holds_30 : decode cX3_holds 30 = .ok (.iconst 1, 1) := by decide +kernel
theorem dX3_holds_31 : decode cX3_holds 31 = .ok (.ireturn, 1) := by decide +kernel
theorem dX3_holds_32 : decode cX3_holds 32 = .ok (.iinc 3 1, 3) := by decide +kernel
theorem dX3_holds_35 : decode cX3_holds 35 = .ok (.goto (-33), 3) := by decide +kernel
theorem dX3_holds_38 : decode cX3_holds 38 = .ok (.iconst 0, 1) := by decide +kernel
theorem dX3_holds_39 : decode cX3_holds 39 = .ok (.ireturn, 1) := by decide +kernel
theorem dX4_init_0 : decode cX4_init 0 = .ok (.aload_n 0, 1) := by decide +kernel
theorem dX4_init_1 : decode cX4_init 1 = .ok (.invokespecial 3, 3) := by decide +kernel
theorem dX4_init_4 : decode cX4_init 4 = .ok (.aload_n 0, 1) := by decide +kernel
theorem dX4_init_5 : decode cX4_init 5 = .ok (.bipush 60, 2) := by decide +kernel
theorem dX4_init_7 : decode cX4_init 7 = .ok (.newarray .int, 2) := by decide +kernel
theorem dX4_init_9 : decode cX4_init 9 = .ok (.putfield 9, 3) := by decide +kernel
theorem dX4_init_12 : decode cX4_init 12 = .ok (.aload_n 0, 1) := by decide +kernel
theorem dX4_init_13 : decode cX4_init 13 = .ok (.iconst (-1), 1) := by decide +kernel
theorem dX4_init_14 : decode cX4_init 14 = .ok (.putfield 15, 3) := by decide +kernel
theorem dX4_init_17 : decode cX4_init 17 = .ok (.return_, 1) := by decide +kernel
theorem dX4_isLost_0 : decode cX4_isLost 0 = .ok (.aload_n 0, 1) := by decide +kernel
theorem dX4_isLost_1 : decode cX4_isLost 1 = .ok (.getfield 15, 3) := by decide +kernel
theorem dX4_isLost_4 : decode cX4_isLost 4 = .ok (.iconst (-1), 1) := by decide +kernel
theorem dX4_isLost_5 : decode cX4_isLost 5 = .ok (.if_icmp .ne 7, 3) := by decide +kernel
theorem dX4_isLost_8 : decode cX4_isLost 8 = .ok (.iconst 1, 1) := by decide +kernel
theorem dX4_isLost_9 : decode cX4_isLost 9 = .ok (.goto 4, 3) := by decide +kernel
theorem dX4_isLost_12 : decode cX4_isLost 12 = .ok (.iconst 0, 1) := by decide +kernel
theorem dX4_isLost_13 : decode cX4_isLost 13 = .ok (.ireturn, 1) := by decide +kernel
theorem dX4_form_0 : decode cX4_form 0 = .ok (.aload_n 0, 1) := by decide +kernel
theorem dX4_form_1 : decode cX4_form 1 = .ok (.getfield 15, 3) := by decide +kernel
theorem dX4_form_4 : decode cX4_form 4 = .ok (.ireturn, 1) := by decide +kernel
theorem dX4_size_0 : decode cX4_size 0 = .ok (.aload_n 0, 1) := by decide +kernel
theorem dX4_size_1 : decode cX4_size 1 = .ok (.getfield 19, 3) := by decide +kernel
theorem dX4_size_4 : decode cX4_size 4 = .ok (.ireturn, 1) := by decide +kernel
theorem dX4_begin_0 : decode cX4_begin 0 = .ok (.aload_n 0, 1) := by decide +kernel
theorem dX4_begin_1 : decode cX4_begin 1 = .ok (.iload_n 1, 1) := by decide +kernel
theorem dX4_begin_2 : decode cX4_begin 2 = .ok (.putfield 15, 3) := by decide +kernel
theorem dX4_begin_5 : decode cX4_begin 5 = .ok (.aload_n 0, 1) := by decide +kernel
theorem dX4_begin_6 : decode cX4_begin 6 = .ok (.iconst 0, 1) := by decide +kernel
theorem dX4_begin_7 : decode cX4_begin 7 = .ok (.iload_n 2, 1) := by decide +kernel
theorem dX4_begin_8 : decode cX4_begin 8 = .ok (.bipush 60, 2) := by decide +kernel
theorem dX4_begin_10 : decode cX4_begin 10 = .ok (.invokestatic 22, 3) := by decide +kernel
theorem dX4_begin_13 : decode cX4_begin 13 = .ok (.invokestatic 28, 3) := by decide +kernel
theorem dX4_begin_16 : decode cX4_begin 16 = .ok (.putfield 19, 3) := by decide +kernel
theorem dX4_begin_19 : decode cX4_begin 19 = .ok (.iconst 0, 1) := by decide +kernel
theorem dX4_begin_20 : decode cX4_begin 20 = .ok (.istore_n 3, 1) := by decide +kernel
theorem dX4_begin_21 : decode cX4_begin 21 = .ok (.iload_n 3, 1) := by decide +kernel
theorem dX4_begin_22 : decode cX4_begin 22 = .ok (.aload_n 0, 1) := by decide +kernel
theorem dX4_begin_23 : decode cX4_begin 23 = .ok (.getfield 19, 3) := by decide +kernel
theorem dX4_begin_26 : decode cX4_begin 26 = .ok (.if_icmp .ge 16, 3) := by decide +kernel
theorem dX4_begin_29 : decode cX4_begin 29 = .ok (.aload_n 0, 1) := by decide +kernel
theorem dX4_begin_30 : decode cX4_begin 30 = .ok (.getfield 9, 3) := by decide +kernel
theorem dX4_begin_33 : decode cX4_begin 33 = .ok (.iload_n 3, 1) := by decide +kernel
theorem dX4_begin_34 : decode cX4_begin 34 = .ok (.iconst 0, 1) := by decide +kernel
theorem dX4_begin_35 : decode cX4_begin 35 = .ok (.iastore, 1) := by decide +kernel
theorem dX4_begin_36 : decode cX4_begin 36 = .ok (.iinc 3 1, 3) := by decide +kernel
theorem dX4_begin_39 : decode cX4_begin 39 = .ok (.goto (-18), 3) := by decide +kernel
theorem dX4_begin_42 : decode cX4_begin 42 = .ok (.return_, 1) := by decide +kernel
theorem dX4_tear_0 : decode cX4_tear 0 = .ok (.aload_n 0, 1) := by decide +kernel
theorem dX4_tear_1 : decode cX4_tear 1 = .ok (.getfield 19, 3) := by decide +kernel
theorem dX4_tear_4 : decode cX4_tear 4 = .ok (.istore_n 1, 1) := by decide +kernel
theorem dX4_tear_5 : decode cX4_tear 5 = .ok (.aload_n 0, 1) := by decide +kernel
theorem dX4_tear_6 : decode cX4_tear 6 = .ok (.iconst (-1), 1) := by decide +kernel
theorem dX4_tear_7 : decode cX4_tear 7 = .ok (.putfield 15, 3) := by decide +kernel
theorem dX4_tear_10 : decode cX4_tear 10 = .ok (.aload_n 0, 1) := by decide +kernel
theorem dX4_tear_11 : decode cX4_tear 11 = .ok (.iconst 0, 1) := by decide +kernel
theorem dX4_tear_12 : decode cX4_tear 12 = .ok (.putfield 19, 3) := by decide +kernel
theorem dX4_tear_15 : decode cX4_tear 15 = .ok (.iload_n 1, 1) := by decide +kernel
theorem dX4_tear_16 : decode cX4_tear 16 = .ok (.ireturn, 1) := by decide +kernel
theorem dX4_hasRange_0 : decode cX4_hasRange 0 = .ok (.iload_n 1, 1) := by decide +kernel
theorem dX4_hasRange_1 : decode cX4_hasRange 1 = .ok (.ifCond .lt 29, 3) := by decide +kernel
theorem dX4_hasRange_4 : decode cX4_hasRange 4 = .ok (.iload_n 2, 1) := by decide +kernel
theorem dX4_hasRange_5 : decode cX4_hasRange 5 = .ok (.ifCond .lt 25, 3) := by decide +kernel
theorem dX4_hasRange_8 : decode cX4_hasRange 8 = .ok (.iload_n 1, 1) := by decide +kernel
theorem dX4_hasRange_9 : decode cX4_hasRange 9 = .ok (.aload_n 0, 1) := by decide +kernel
theorem dX4_hasRange_10 : decode cX4_hasRange 10 = .ok (.getfield 19, 3) := by decide +kernel
theorem dX4_hasRange_13 : decode cX4_hasRange 13 = .ok (.if_icmp .gt 17, 3) := by decide +kernel
theorem dX4_hasRange_16 : decode cX4_hasRange 16 = .ok (.iload_n 2, 1) := by decide +kernel
theorem dX4_hasRange_17 : decode cX4_hasRange 17 = .ok (.aload_n 0, 1) := by decide +kernel
theorem dX4_hasRange_18 : decode cX4_hasRange 18 = .ok (.getfield 19, 3) := by decide +kernel
theorem dX4_hasRange_21 : decode cX4_hasRange 21 = .ok (.iload_n 1, 1) := by decide +kernel
theorem dX4_hasRange_22 : decode cX4_hasRange 22 = .ok (.isub, 1) := by decide +kernel
theorem dX4_hasRange_23 : decode cX4_hasRange 23 = .ok (.if_icmp .gt 7, 3) := by decide +kernel
theorem dX4_hasRange_26 : decode cX4_hasRange 26 = .ok (.iconst 1, 1) := by decide +kernel
theorem dX4_hasRange_27 : decode cX4_hasRange 27 = .ok (.goto 4, 3) := by decide +kernel
theorem dX4_hasRange_30 : decode cX4_hasRange 30 = .ok (.iconst 0, 1) := by decide +kernel
theorem dX4_hasRange_31 : decode cX4_hasRange 31 = .ok (.ireturn, 1) := by decide +kernel
theorem dX4_item_0 : decode cX4_item 0 = .ok (.iload_n 1, 1) := by decide +kernel
theorem dX4_item_1 : decode cX4_item 1 = .ok (.iconst 0, 1) := by decide +kernel
theorem dX4_item_2 : decode cX4_item 2 = .ok (.aload_n 0, 1) := by decide +kernel
theorem dX4_item_3 : decode cX4_item 3 = .ok (.getfield 19, 3) := by decide +kernel
theorem dX4_item_6 : decode cX4_item 6 = .ok (.iconst 1, 1) := by decide +kernel
theorem dX4_item_7 : decode cX4_item 7 = .ok (.isub, 1) := by decide +kernel
theorem dX4_item_8 : decode cX4_item 8 = .ok (.invokestatic 31, 3) := by decide +kernel
theorem dX4_item_11 : decode cX4_item 11 = .ok (.ifCond .eq 12, 3) := by decide +kernel
theorem dX4_item_14 : decode cX4_item 14 = .ok (.aload_n 0, 1) := by decide +kernel
theorem dX4_item_15 : decode cX4_item 15 = .ok (.getfield 9, 3) := by decide +kernel
theorem dX4_item_18 : decode cX4_item 18 = .ok (.iload_n 1, 1) := by decide +kernel
theorem dX4_item_19 : decode cX4_item 19 = .ok (.iaload, 1) := by decide +kernel
theorem dX4_item_20 : decode cX4_item 20 = .ok (.goto 4, 3) := by decide +kernel
theorem dX4_item_23 : decode cX4_item 23 = .ok (.iconst 0, 1) := by decide +kernel
theorem dX4_item_24 : decode cX4_item 24 = .ok (.ireturn, 1) := by decide +kernel
theorem dX4_keep_0 : decode cX4_keep 0 = .ok (.iload_n 1, 1) := by decide +kernel
theorem dX4_keep_1 : decode cX4_keep 1 = .ok (.iconst 0, 1) := by decide +kernel
theorem dX4_keep_2 : decode cX4_keep 2 = .ok (.aload_n 0, 1) := by decide +kernel
theorem dX4_keep_3 : decode cX4_keep 3 = .ok (.getfield 19, 3) := by decide +kernel
theorem dX4_keep_6 : decode cX4_keep 6 = .ok (.iconst 1, 1) := by decide +kernel
theorem dX4_keep_7 : decode cX4_keep 7 = .ok (.isub, 1) := by decide +kernel
theorem dX4_keep_8 : decode cX4_keep 8 = .ok (.invokestatic 31, 3) := by decide +kernel
theorem dX4_keep_11 : decode cX4_keep 11 = .ok (.ifCond .eq 14, 3) := by decide +kernel
theorem dX4_keep_14 : decode cX4_keep 14 = .ok (.aload_n 0, 1) := by decide +kernel
theorem dX4_keep_15 : decode cX4_keep 15 = .ok (.getfield 9, 3) := by decide +kernel
theorem dX4_keep_18 : decode cX4_keep 18 = .ok (.iload_n 1, 1) := by decide +kernel
theorem dX4_keep_19 : decode cX4_keep 19 = .ok (.aload_n 0, 1) := by decide +kernel
theorem dX4_keep_20 : decode cX4_keep 20 = .ok (.iload_n 2, 1) := by decide +kernel
theorem dX4_keep_21 : decode cX4_keep 21 = .ok (.invokevirtual 35, 3) := by decide +kernel
theorem dX4_keep_24 : decode cX4_keep 24 = .ok (.iastore, 1) := by decide +kernel
theorem dX4_keep_25 : decode cX4_keep 25 = .ok (.return_, 1) := by decide +kernel
theorem dX4_takeItems_0 : decode cX4_takeItems 0 = .ok (.aload_n 0, 1) := by decide +kernel
theorem dX4_takeItems_1 : decode cX4_takeItems 1 = .ok (.iload_n 1, 1) := by decide +kernel
theorem dX4_takeItems_2 : decode cX4_takeItems 2 = .ok (.iload 4, 2) := by decide +kernel
theorem dX4_takeItems_4 : decode cX4_takeItems 4 = .ok (.invokevirtual 39, 3) := by decide +kernel
theorem dX4_takeItems_7 : decode cX4_takeItems 7 = .ok (.ifCond .eq 28, 3) := by decide +kernel
theorem dX4_takeItems_10 : decode cX4_takeItems 10 = .ok (.aload_n 2, 1) := by decide +kernel
theorem dX4_takeItems_11 : decode cX4_takeItems 11 = .ok (.iload_n 3, 1) := by decide +kernel
theorem dX4_takeItems_12 : decode cX4_takeItems 12 = .ok (.iload 4, 2) := by decide +kernel
theorem dX4_takeItems_14 : decode cX4_takeItems 14 = .ok (.invokevirtual 39, 3) := by decide +kernel
theorem dX4_takeItems_17 : decode cX4_takeItems 17 = .ok (.ifCond .eq 18, 3) := by decide +kernel
theorem dX4_takeItems_20 : decode cX4_takeItems 20 = .ok (.aload_n 2, 1) := by decide +kernel
theorem dX4_takeItems_21 : decode cX4_takeItems 21 = .ok (.getfield 9, 3) := by decide +kernel
theorem dX4_takeItems_24 : decode cX4_takeItems 24 = .ok (.iload_n 3, 1) := by decide +kernel
theorem dX4_takeItems_25 : decode cX4_takeItems 25 = .ok (.aload_n 0, 1) := by decide +kernel
theorem dX4_takeItems_26 : decode cX4_takeItems 26 = .ok (.getfield 9, 3) := by decide +kernel
theorem dX4_takeItems_29 : decode cX4_takeItems 29 = .ok (.iload_n 1, 1) := by decide +kernel
theorem dX4_takeItems_30 : decode cX4_takeItems 30 = .ok (.iload 4, 2) := by decide +kernel
theorem dX4_takeItems_32 : decode cX4_takeItems 32 = .ok (.invokestatic 43, 3) := by decide +kernel
theorem dX4_takeItems_35 : decode cX4_takeItems 35 = .ok (.return_, 1) := by decide +kernel
theorem dX4_cut_0 : decode cX4_cut 0 = .ok (.aload_n 0, 1) := by decide +kernel
theorem dX4_cut_1 : decode cX4_cut 1 = .ok (.getfield 15, 3) := by decide +kernel
theorem dX4_cut_4 : decode cX4_cut 4 = .ok (.lookupswitch 34 #[(0, 28), (1, 31)], 28) := by decide +kernel
theorem dX4_cut_32 : decode cX4_cut 32 = .ok (.iload_n 1, 1) := by decide +kernel
theorem dX4_cut_33 : decode cX4_cut 33 = .ok (.i2b, 1) := by decide +kernel
theorem dX4_cut_34 : decode cX4_cut 34 = .ok (.ireturn, 1) := by decide +kernel
theorem dX4_cut_35 : decode cX4_cut 35 = .ok (.iload_n 1, 1) := by decide +kernel
theorem dX4_cut_36 : decode cX4_cut 36 = .ok (.i2s, 1) := by decide +kernel
theorem dX4_cut_37 : decode cX4_cut 37 = .ok (.ireturn, 1) := by decide +kernel
theorem dX4_cut_38 : decode cX4_cut 38 = .ok (.iload_n 1, 1) := by decide +kernel
theorem dX4_cut_39 : decode cX4_cut 39 = .ok (.ireturn, 1) := by decide +kernel
theorem dX5_init_0 : decode cX5_init 0 = .ok (.aload_n 0, 1) := by decide +kernel
theorem dX5_init_1 : decode cX5_init 1 = .ok (.invokespecial 3, 3) := by decide +kernel
theorem dX5_init_4 : decode cX5_init 4 = .ok (.aload_n 0, 1) := by decide +kernel
theorem dX5_init_5 : decode cX5_init 5 = .ok (.new 9, 3) := by decide +kernel
theorem dX5_init_8 : decode cX5_init 8 = .ok (.dup, 1) := by decide +kernel
theorem dX5_init_9 : decode cX5_init 9 = .ok (.invokespecial 11, 3) := by decide +kernel
theorem dX5_init_12 : decode cX5_init 12 = .ok (.putfield 12, 3) := by decide +kernel
theorem dX5_init_15 : decode cX5_init 15 = .ok (.aload_n 0, 1) := by decide +kernel
theorem dX5_init_16 : decode cX5_init 16 = .ok (.new 16, 3) := by decide +kernel
theorem dX5_init_19 : decode cX5_init 19 = .ok (.dup, 1) := by decide +kernel
theorem dX5_init_20 : decode cX5_init 20 = .ok (.bipush 8, 2) := by decide +kernel
theorem dX5_init_22 : decode cX5_init 22 = .ok (.invokespecial 18, 3) := by decide +kernel
theorem dX5_init_25 : decode cX5_init 25 = .ok (.putfield 21, 3) := by decide +kernel
theorem dX5_init_28 : decode cX5_init 28 = .ok (.aload_n 0, 1) := by decide +kernel
theorem dX5_init_29 : decode cX5_init 29 = .ok (.new 16, 3) := by decide +kernel
theorem dX5_init_32 : decode cX5_init 32 = .ok (.dup, 1) := by decide +kernel
theorem dX5_init_33 : decode cX5_init 33 = .ok (.iconst 4, 1) := by decide +kernel
theorem dX5_init_34 : decode cX5_init 34 = .ok (.invokespecial 18, 3) := by decide +kernel
theorem dX5_init_37 : decode cX5_init 37 = .ok (.putfield 25, 3) := by decide +kernel
theorem dX5_init_40 : decode cX5_init 40 = .ok (.aload_n 0, 1) := by decide +kernel
theorem dX5_init_41 : decode cX5_init 41 = .ok (.new 16, 3) := by decide +kernel
theorem dX5_init_44 : decode cX5_init 44 = .ok (.dup, 1) := by decide +kernel
theorem dX5_init_45 : decode cX5_init 45 = .ok (.bipush 10, 2) := by decide +kernel
theorem dX5_init_47 : decode cX5_init 47 = .ok (.invokespecial 18, 3) := by decide +kernel
theorem dX5_init_50 : decode cX5_init 50 = .ok (.putfield 28, 3) := by decide +kernel
theorem dX5_init_53 : decode cX5_init 53 = .ok (.aload_n 0, 1) := by decide +kernel
theorem dX5_init_54 : decode cX5_init 54 = .ok (.new 16, 3) := by decide +kernel
theorem dX5_init_57 : decode cX5_init 57 = .ok (.dup, 1) := by decide +kernel
theorem dX5_init_58 : decode cX5_init 58 = .ok (.bipush 12, 2) := by decide +kernel
theorem dX5_init_60 : decode cX5_init 60 = .ok (.invokespecial 18, 3) := by decide +kernel
theorem dX5_init_63 : decode cX5_init 63 = .ok (.putfield 31, 3) := by decide +kernel
theorem dX5_init_66 : decode cX5_init 66 = .ok (.aload_n 0, 1) := by decide +kernel
theorem dX5_init_67 : decode cX5_init 67 = .ok (.new 16, 3) := by decide +kernel
theorem dX5_init_70 : decode cX5_init 70 = .ok (.dup, 1) := by decide +kernel
theorem dX5_init_71 : decode cX5_init 71 = .ok (.bipush 6, 2) := by decide +kernel
theorem dX5_init_73 : decode cX5_init 73 = .ok (.invokespecial 18, 3) := by decide +kernel
theorem dX5_init_76 : decode cX5_init 76 = .ok (.putfield 34, 3) := by decide +kernel
theorem dX5_init_79 : decode cX5_init 79 = .ok (.aload_n 0, 1) := by decide +kernel
theorem dX5_init_80 : decode cX5_init 80 = .ok (.new 16, 3) := by decide +kernel
theorem dX5_init_83 : decode cX5_init 83 = .ok (.dup, 1) := by decide +kernel
theorem dX5_init_84 : decode cX5_init 84 = .ok (.bipush 8, 2) := by decide +kernel
theorem dX5_init_86 : decode cX5_init 86 = .ok (.invokespecial 18, 3) := by decide +kernel
theorem dX5_init_89 : decode cX5_init 89 = .ok (.putfield 37, 3) := by decide +kernel
theorem dX5_init_92 : decode cX5_init 92 = .ok (.aload_n 0, 1) := by decide +kernel
theorem dX5_init_93 : decode cX5_init 93 = .ok (.new 16, 3) := by decide +kernel
theorem dX5_init_96 : decode cX5_init 96 = .ok (.dup, 1) := by decide +kernel
theorem dX5_init_97 : decode cX5_init 97 = .ok (.bipush 8, 2) := by decide +kernel
theorem dX5_init_99 : decode cX5_init 99 = .ok (.invokespecial 18, 3) := by decide +kernel
theorem dX5_init_102 : decode cX5_init 102 = .ok (.putfield 40, 3) := by decide +kernel
theorem dX5_init_105 : decode cX5_init 105 = .ok (.aload_n 0, 1) := by decide +kernel
theorem dX5_init_106 : decode cX5_init 106 = .ok (.new 43, 3) := by decide +kernel
theorem dX5_init_109 : decode cX5_init 109 = .ok (.dup, 1) := by decide +kernel
theorem dX5_init_110 : decode cX5_init 110 = .ok (.invokespecial 45, 3) := by decide +kernel
theorem dX5_init_113 : decode cX5_init 113 = .ok (.putfield 46, 3) := by decide +kernel
theorem dX5_init_116 : decode cX5_init 116 = .ok (.aload_n 0, 1) := by decide +kernel
theorem dX5_init_117 : decode cX5_init 117 = .ok (.new 43, 3) := by decide +kernel
theorem dX5_init_120 : decode cX5_init 120 = .ok (.dup, 1) := by decide +kernel
theorem dX5_init_121 : decode cX5_init 121 = .ok (.invokespecial 45, 3) := by decide +kernel
theorem dX5_init_124 : decode cX5_init 124 = .ok (.putfield 50, 3) := by decide +kernel
theorem dX5_init_127 : decode cX5_init 127 = .ok (.aload_n 0, 1) := by decide +kernel
theorem dX5_init_128 : decode cX5_init 128 = .ok (.new 53, 3) := by decide +kernel
theorem dX5_init_131 : decode cX5_init 131 = .ok (.dup, 1) := by decide +kernel
theorem dX5_init_132 : decode cX5_init 132 = .ok (.invokespecial 55, 3) := by decide +kernel
theorem dX5_init_135 : decode cX5_init 135 = .ok (.putfield 56, 3) := by decide +kernel
theorem dX5_init_138 : decode cX5_init 138 = .ok (.aload_n 0, 1) := by decide +kernel
theorem dX5_init_139 : decode cX5_init 139 = .ok (.iconst 4, 1) := by decide +kernel
theorem dX5_init_140 : decode cX5_init 140 = .ok (.anewarray 60, 3) := by decide +kernel
theorem dX5_init_143 : decode cX5_init 143 = .ok (.putfield 62, 3) := by decide +kernel
theorem dX5_init_146 : decode cX5_init 146 = .ok (.aload_n 0, 1) := by decide +kernel
theorem dX5_init_147 : decode cX5_init 147 = .ok (.iconst 1, 1) := by decide +kernel
theorem dX5_init_148 : decode cX5_init 148 = .ok (.putfield 66, 3) := by decide +kernel
theorem dX5_init_151 : decode cX5_init 151 = .ok (.iconst 0, 1) := by decide +kernel
theorem dX5_init_152 : decode cX5_init 152 = .ok (.istore_n 1, 1) := by decide +kernel
theorem dX5_init_153 : decode cX5_init 153 = .ok (.iload_n 1, 1) := by decide +kernel
theorem dX5_init_154 : decode cX5_init 154 = .ok (.iconst 4, 1) := by decide +kernel
theorem dX5_init_155 : decode cX5_init 155 = .ok (.if_icmp .ge 22, 3) := by decide +kernel
theorem dX5_init_158 : decode cX5_init 158 = .ok (.aload_n 0, 1) := by decide +kernel
theorem dX5_init_159 : decode cX5_init 159 = .ok (.getfield 62, 3) := by decide +kernel
theorem dX5_init_162 : decode cX5_init 162 = .ok (.iload_n 1, 1) := by decide +kernel
theorem dX5_init_163 : decode cX5_init 163 = .ok (.new 60, 3) := by decide +kernel
theorem dX5_init_166 : decode cX5_init 166 = .ok (.dup, 1) := by decide +kernel
theorem dX5_init_167 : decode cX5_init 167 = .ok (.invokespecial 70, 3) := by decide +kernel
theorem dX5_init_170 : decode cX5_init 170 = .ok (.aastore, 1) := by decide +kernel
theorem dX5_init_171 : decode cX5_init 171 = .ok (.iinc 1 1, 3) := by decide +kernel
theorem dX5_init_174 : decode cX5_init 174 = .ok (.goto (-21), 3) := by decide +kernel
theorem dX5_init_177 : decode cX5_init 177 = .ok (.return_, 1) := by decide +kernel
theorem dX5_type_0 : decode cX5_type 0 = .ok (.iload_n 1, 1) := by decide +kernel
theorem dX5_type_1 : decode cX5_type 1 = .ok (.iconst 0, 1) := by decide +kernel
theorem dX5_type_2 : decode cX5_type 2 = .ok (.sipush 255, 3) := by decide +kernel
theorem dX5_type_5 : decode cX5_type 5 = .ok (.invokestatic 71, 3) := by decide +kernel
theorem dX5_type_8 : decode cX5_type 8 = .ok (.ifCond .ne 6, 3) := by decide +kernel
theorem dX5_type_11 : decode cX5_type 11 = .ok (.bipush (-2), 2) := by decide +kernel
theorem dX5_type_13 : decode cX5_type 13 = .ok (.ireturn, 1) := by decide +kernel
theorem dX5_type_14 : decode cX5_type 14 = .ok (.aload_n 0, 1) := by decide +kernel
theorem dX5_type_15 : decode cX5_type 15 = .ok (.aload_n 0, 1) := by decide +kernel
theorem dX5_type_16 : decode cX5_type 16 = .ok (.getfield 12, 3) := by decide +kernel
theorem dX5_type_19 : decode cX5_type 19 = .ok (.iload_n 1, 1) := by decide +kernel
theorem dX5_type_20 : decode cX5_type 20 = .ok (.invokevirtual 75, 3) := by decide +kernel
theorem dX5_type_23 : decode cX5_type 23 = .ok (.invokevirtual 79, 3) := by decide +kernel
theorem dX5_type_26 : decode cX5_type 26 = .ok (.ireturn, 1) := by decide +kernel
theorem dX5_wipe_0 : decode cX5_wipe 0 = .ok (.aload_n 0, 1) := by decide +kernel
theorem dX5_wipe_1 : decode cX5_wipe 1 = .ok (.aload_n 0, 1) := by decide +kernel
theorem dX5_wipe_2 : decode cX5_wipe 2 = .ok (.getfield 12, 3) := by decide +kernel
theorem dX5_wipe_5 : decode cX5_wipe 5 = .ok (.invokevirtual 82, 3) := by decide +kernel
theorem dX5_wipe_8 : decode cX5_wipe 8 = .ok (.invokevirtual 79, 3) := by decide +kernel
theorem dX5_wipe_11 : decode cX5_wipe 11 = .ok (.ireturn, 1) := by decide +kernel
theorem dX5_undo_0 : decode cX5_undo 0 = .ok (.aload_n 0, 1) := by decide +kernel
theorem dX5_undo_1 : decode cX5_undo 1 = .ok (.aload_n 0, 1) := by decide +kernel
theorem dX5_undo_2 : decode cX5_undo 2 = .ok (.getfield 12, 3) := by decide +kernel
theorem dX5_undo_5 : decode cX5_undo 5 = .ok (.invokevirtual 86, 3) := by decide +kernel
theorem dX5_undo_8 : decode cX5_undo 8 = .ok (.invokevirtual 79, 3) := by decide +kernel
theorem dX5_undo_11 : decode cX5_undo 11 = .ok (.ireturn, 1) := by decide +kernel
theorem dX5_fault_0 : decode cX5_fault 0 = .ok (.aload_n 0, 1) := by decide +kernel
theorem dX5_fault_1 : decode cX5_fault 1 = .ok (.getfield 12, 3) := by decide +kernel
theorem dX5_fault_4 : decode cX5_fault 4 = .ok (.invokevirtual 89, 3) := by decide +kernel
theorem dX5_fault_7 : decode cX5_fault 7 = .ok (.ireturn, 1) := by decide +kernel
theorem dX5_deed_0 : decode cX5_deed 0 = .ok (.aload_n 0, 1) := by decide +kernel
theorem dX5_deed_1 : decode cX5_deed 1 = .ok (.getfield 12, 3) := by decide +kernel
theorem dX5_deed_4 : decode cX5_deed 4 = .ok (.iload_n 1, 1) := by decide +kernel
theorem dX5_deed_5 : decode cX5_deed 5 = .ok (.invokevirtual 92, 3) := by decide +kernel
theorem dX5_deed_8 : decode cX5_deed 8 = .ok (.ifCond .ne 6, 3) := by decide +kernel
theorem dX5_deed_11 : decode cX5_deed 11 = .ok (.bipush (-2), 2) := by decide +kernel
theorem dX5_deed_13 : decode cX5_deed 13 = .ok (.ireturn, 1) := by decide +kernel
theorem dX5_deed_14 : decode cX5_deed 14 = .ok (.iload_n 2, 1) := by decide +kernel
theorem dX5_deed_15 : decode cX5_deed 15 = .ok (.tableswitch 62 0 2 #[25, 34, 46], 25) := by decide +kernel
theorem dX5_deed_40 : decode cX5_deed 40 = .ok (.aload_n 0, 1) := by decide +kernel
theorem dX5_deed_41 : decode cX5_deed 41 = .ok (.getfield 12, 3) := by decide +kernel
theorem dX5_deed_44 : decode cX5_deed 44 = .ok (.iload_n 1, 1) := by decide +kernel
theorem dX5_deed_45 : decode cX5_deed 45 = .ok (.invokevirtual 96, 3) := by decide +kernel
theorem dX5_deed_48 : decode cX5_deed 48 = .ok (.ireturn, 1) := by decide +kernel
theorem dX5_deed_49 : decode cX5_deed 49 = .ok (.aload_n 0, 1) := by decide +kernel
theorem dX5_deed_50 : decode cX5_deed 50 = .ok (.getfield 12, 3) := by decide +kernel
theorem dX5_deed_53 : decode cX5_deed 53 = .ok (.invokevirtual 99, 3) := by decide +kernel
theorem dX5_deed_56 : decode cX5_deed 56 = .ok (.iload_n 1, 1) := by decide +kernel
theorem dX5_deed_57 : decode cX5_deed 57 = .ok (.invokestatic 102, 3) := by decide +kernel
theorem dX5_deed_60 : decode cX5_deed 60 = .ok (.ireturn, 1) := by decide +kernel
theorem dX5_deed_61 : decode cX5_deed 61 = .ok (.aload_n 0, 1) := by decide +kernel
theorem dX5_deed_62 : decode cX5_deed 62 = .ok (.getfield 12, 3) := by decide +kernel
theorem dX5_deed_65 : decode cX5_deed 65 = .ok (.aload_n 0, 1) := by decide +kernel
theorem dX5_deed_66 : decode cX5_deed 66 = .ok (.getfield 106, 3) := by decide +kernel
theorem dX5_deed_69 : decode cX5_deed 69 = .ok (.invokevirtual 110, 3) := by decide +kernel
theorem dX5_deed_72 : decode cX5_deed 72 = .ok (.iload_n 1, 1) := by decide +kernel
theorem dX5_deed_73 : decode cX5_deed 73 = .ok (.invokestatic 102, 3) := by decide +kernel
theorem dX5_deed_76 : decode cX5_deed 76 = .ok (.ireturn, 1) := by decide +kernel
theorem dX5_deed_77 : decode cX5_deed 77 = .ok (.bipush (-2), 2) := by decide +kernel
theorem dX5_deed_79 : decode cX5_deed 79 = .ok (.ireturn, 1) := by decide +kernel
theorem dX5_set_0 : decode cX5_set 0 = .ok (.iload_n 1, 1) := by decide +kernel
theorem dX5_set_1 : decode cX5_set 1 = .ok (.iconst 0, 1) := by decide +kernel
theorem dX5_set_2 : decode cX5_set 2 = .ok (.iconst 1, 1) := by decide +kernel
theorem dX5_set_3 : decode cX5_set 3 = .ok (.invokestatic 71, 3) := by decide +kernel
theorem dX5_set_6 : decode cX5_set 6 = .ok (.ifCond .eq 12, 3) := by decide +kernel
theorem dX5_set_9 : decode cX5_set 9 = .ok (.iload_n 2, 1) := by decide +kernel
theorem dX5_set_10 : decode cX5_set 10 = .ok (.iconst 0, 1) := by decide +kernel
theorem dX5_set_11 : decode cX5_set 11 = .ok (.iconst 2, 1) := by decide +kernel
theorem dX5_set_12 : decode cX5_set 12 = .ok (.invokestatic 71, 3) := by decide +kernel
theorem dX5_set_15 : decode cX5_set 15 = .ok (.ifCond .ne 6, 3) := by decide +kernel
theorem dX5_set_18 : decode cX5_set 18 = .ok (.bipush (-2), 2) := by decide +kernel
theorem dX5_set_20 : decode cX5_set 20 = .ok (.ireturn, 1) := by decide +kernel
theorem dX5_set_21 : decode cX5_set 21 = .ok (.iload_n 1, 1) := by decide +kernel
theorem dX5_set_22 : decode cX5_set 22 = .ok (.ifCond .ne 16, 3) := by decide +kernel
theorem dX5_set_25 : decode cX5_set 25 = .ok (.aload_n 0, 1) := by decide +kernel
theorem dX5_set_26 : decode cX5_set 26 = .ok (.getfield 106, 3) := by decide +kernel
theorem dX5_set_29 : decode cX5_set 29 = .ok (.istore_n 3, 1) := by decide +kernel
theorem dX5_set_30 : decode cX5_set 30 = .ok (.aload_n 0, 1) := by decide +kernel
theorem dX5_set_31 : decode cX5_set 31 = .ok (.iload_n 2, 1) := by decide +kernel
theorem dX5_set_32 : decode cX5_set 32 = .ok (.putfield 106, 3) := by decide +kernel
theorem dX5_set_35 : decode cX5_set 35 = .ok (.goto 13, 3) := by decide +kernel
theorem dX5_set_38 : decode cX5_set 38 = .ok (.aload_n 0, 1) := by decide +kernel
theorem dX5_set_39 : decode cX5_set 39 = .ok (.getfield 113, 3) := by decide +kernel
theorem dX5_set_42 : decode cX5_set 42 = .ok (.istore_n 3, 1) := by decide +kernel
theorem dX5_set_43 : decode cX5_set 43 = .ok (.aload_n 0, 1) := by decide +kernel
theorem dX5_set_44 : decode cX5_set 44 = .ok (.iload_n 2, 1) := by decide +kernel
theorem dX5_set_45 : decode cX5_set 45 = .ok (.putfield 113, 3) := by decide +kernel
theorem dX5_set_48 : decode cX5_set 48 = .ok (.aload_n 0, 1) := by decide +kernel
theorem dX5_set_49 : decode cX5_set 49 = .ok (.iload_n 3, 1) := by decide +kernel
theorem dX5_set_50 : decode cX5_set 50 = .ok (.invokevirtual 79, 3) := by decide +kernel
theorem dX5_set_53 : decode cX5_set 53 = .ok (.ireturn, 1) := by decide +kernel
theorem dX5_sick_0 : decode cX5_sick 0 = .ok (.iload_n 1, 1) := by decide +kernel
theorem dX5_sick_1 : decode cX5_sick 1 = .ok (.invokestatic 116, 3) := by decide +kernel
theorem dX5_sick_4 : decode cX5_sick 4 = .ok (.ifCond .eq 10, 3) := by decide +kernel
theorem dX5_sick_7 : decode cX5_sick 7 = .ok (.iload_n 2, 1) := by decide +kernel
theorem dX5_sick_8 : decode cX5_sick 8 = .ok (.invokestatic 119, 3) := by decide +kernel
theorem dX5_sick_11 : decode cX5_sick 11 = .ok (.ifCond .ne 6, 3) := by decide +kernel
theorem dX5_sick_14 : decode cX5_sick 14 = .ok (.bipush (-2), 2) := by decide +kernel
theorem dX5_sick_16 : decode cX5_sick 16 = .ok (.ireturn, 1) := by decide +kernel
theorem dX5_sick_17 : decode cX5_sick 17 = .ok (.aload_n 0, 1) := by decide +kernel
theorem dX5_sick_18 : decode cX5_sick 18 = .ok (.aload_n 0, 1) := by decide +kernel
theorem dX5_sick_19 : decode cX5_sick 19 = .ok (.getfield 21, 3) := by decide +kernel
theorem dX5_sick_22 : decode cX5_sick 22 = .ok (.iload_n 1, 1) := by decide +kernel
theorem dX5_sick_23 : decode cX5_sick 23 = .ok (.iload_n 2, 1) := by decide +kernel
theorem dX5_sick_24 : decode cX5_sick 24 = .ok (.iconst 0, 1) := by decide +kernel
theorem dX5_sick_25 : decode cX5_sick 25 = .ok (.invokevirtual 122, 3) := by decide +kernel
theorem dX5_sick_28 : decode cX5_sick 28 = .ok (.invokevirtual 79, 3) := by decide +kernel
theorem dX5_sick_31 : decode cX5_sick 31 = .ok (.ireturn, 1) := by decide +kernel
theorem dX5_leap_0 : decode cX5_leap 0 = .ok (.iload_n 1, 1) := by decide +kernel
theorem dX5_leap_1 : decode cX5_leap 1 = .ok (.invokestatic 119, 3) := by decide +kernel
theorem dX5_leap_4 : decode cX5_leap 4 = .ok (.ifCond .ne 6, 3) := by decide +kernel
theorem dX5_leap_7 : decode cX5_leap 7 = .ok (.bipush (-2), 2) := by decide +kernel
theorem dX5_leap_9 : decode cX5_leap 9 = .ok (.ireturn, 1) := by decide +kernel
theorem dX5_leap_10 : decode cX5_leap 10 = .ok (.aload_n 0, 1) := by decide +kernel
theorem dX5_leap_11 : decode cX5_leap 11 = .ok (.aload_n 0, 1) := by decide +kernel
theorem dX5_leap_12 : decode cX5_leap 12 = .ok (.getfield 25, 3) := by decide +kernel
theorem dX5_leap_15 : decode cX5_leap 15 = .ok (.iload_n 1, 1) := by decide +kernel
theorem dX5_leap_16 : decode cX5_leap 16 = .ok (.iconst 0, 1) := by decide +kernel
theorem dX5_leap_17 : decode cX5_leap 17 = .ok (.iconst 0, 1) := by decide +kernel
theorem dX5_leap_18 : decode cX5_leap 18 = .ok (.invokevirtual 122, 3) := by decide +kernel
theorem dX5_leap_21 : decode cX5_leap 21 = .ok (.invokevirtual 79, 3) := by decide +kernel
theorem dX5_leap_24 : decode cX5_leap 24 = .ok (.ireturn, 1) := by decide +kernel
theorem dX5_edict_0 : decode cX5_edict 0 = .ok (.iload_n 1, 1) := by decide +kernel
theorem dX5_edict_1 : decode cX5_edict 1 = .ok (.invokestatic 119, 3) := by decide +kernel
theorem dX5_edict_4 : decode cX5_edict 4 = .ok (.ifCond .eq 10, 3) := by decide +kernel
theorem dX5_edict_7 : decode cX5_edict 7 = .ok (.iload_n 2, 1) := by decide +kernel
theorem dX5_edict_8 : decode cX5_edict 8 = .ok (.invokestatic 126, 3) := by decide +kernel
theorem dX5_edict_11 : decode cX5_edict 11 = .ok (.ifCond .ne 6, 3) := by decide +kernel
theorem dX5_edict_14 : decode cX5_edict 14 = .ok (.bipush (-2), 2) := by decide +kernel
theorem dX5_edict_16 : decode cX5_edict 16 = .ok (.ireturn, 1) := by decide +kernel
theorem dX5_edict_17 : decode cX5_edict 17 = .ok (.aload_n 0, 1) := by decide +kernel
theorem dX5_edict_18 : decode cX5_edict 18 = .ok (.aload_n 0, 1) := by decide +kernel
theorem dX5_edict_19 : decode cX5_edict 19 = .ok (.getfield 28, 3) := by decide +kernel
theorem dX5_edict_22 : decode cX5_edict 22 = .ok (.iload_n 1, 1) := by decide +kernel
theorem dX5_edict_23 : decode cX5_edict 23 = .ok (.iload_n 2, 1) := by decide +kernel
theorem dX5_edict_24 : decode cX5_edict 24 = .ok (.iconst 0, 1) := by decide +kernel
theorem dX5_edict_25 : decode cX5_edict 25 = .ok (.invokevirtual 122, 3) := by decide +kernel
theorem dX5_edict_28 : decode cX5_edict 28 = .ok (.invokevirtual 79, 3) := by decide +kernel
theorem dX5_edict_31 : decode cX5_edict 31 = .ok (.ireturn, 1) := by decide +kernel
theorem dX5_does_0 : decode cX5_does 0 = .ok (.iload_n 1, 1) := by decide +kernel
theorem dX5_does_1 : decode cX5_does 1 = .ok (.invokestatic 119, 3) := by decide +kernel
theorem dX5_does_4 : decode cX5_does 4 = .ok (.ifCond .eq 30, 3) := by decide +kernel
theorem dX5_does_7 : decode cX5_does 7 = .ok (.iload_n 2, 1) := by decide +kernel
theorem dX5_does_8 : decode cX5_does 8 = .ok (.invokestatic 126, 3) := by decide +kernel
theorem dX5_does_11 : decode cX5_does 11 = .ok (.ifCond .eq 23, 3) := by decide +kernel
theorem dX5_does_14 : decode cX5_does 14 = .ok (.iload_n 3, 1) := by decide +kernel
theorem dX5_does_15 : decode cX5_does 15 = .ok (.iconst 1, 1) := by decide +kernel
theorem dX5_does_16 : decode cX5_does 16 = .ok (.iconst 5, 1) := by decide +kernel
theorem dX5_does_17 : decode cX5_does 17 = .ok (.invokestatic 71, 3) := by decide +kernel
theorem dX5_does_20 : decode cX5_does 20 = .ok (.ifCond .eq 14, 3) := by decide +kernel
theorem dX5_does_23 : decode cX5_does 23 = .ok (.iload_n 1, 1) := by decide +kernel
theorem dX5_does_24 : decode cX5_does 24 = .ok (.iload_n 3, 1) := by decide +kernel
theorem dX5_does_25 : decode cX5_does 25 = .ok (.iadd, 1) := by decide +kernel
theorem dX5_does_26 : decode cX5_does 26 = .ok (.iconst 1, 1) := by decide +kernel
theorem dX5_does_27 : decode cX5_does 27 = .ok (.isub, 1) := by decide +kernel
theorem dX5_does_28 : decode cX5_does 28 = .ok (.invokestatic 119, 3) := by decide +kernel
theorem dX5_does_31 : decode cX5_does 31 = .ok (.ifCond .ne 6, 3) := by decide +kernel
theorem dX5_does_34 : decode cX5_does 34 = .ok (.bipush (-2), 2) := by decide +kernel
theorem dX5_does_36 : decode cX5_does 36 = .ok (.ireturn, 1) := by decide +kernel
theorem dX5_does_37 : decode cX5_does 37 = .ok (.aload_n 0, 1) := by decide +kernel
theorem dX5_does_38 : decode cX5_does 38 = .ok (.getfield 31, 3) := by decide +kernel
theorem dX5_does_41 : decode cX5_does 41 = .ok (.iload_n 1, 1) := by decide +kernel
theorem dX5_does_42 : decode cX5_does 42 = .ok (.iload_n 2, 1) := by decide +kernel
theorem dX5_does_43 : decode cX5_does 43 = .ok (.iload_n 3, 1) := by decide +kernel
theorem dX5_does_44 : decode cX5_does 44 = .ok (.invokevirtual 122, 3) := by decide +kernel
theorem dX5_does_47 : decode cX5_does 47 = .ok (.ireturn, 1) := by decide +kernel
theorem dX5_task_0 : decode cX5_task 0 = .ok (.iload_n 1, 1) := by decide +kernel
theorem dX5_task_1 : decode cX5_task 1 = .ok (.invokestatic 126, 3) := by decide +kernel
theorem dX5_task_4 : decode cX5_task 4 = .ok (.ifCond .eq 12, 3) := by decide +kernel
theorem dX5_task_7 : decode cX5_task 7 = .ok (.iload_n 2, 1) := by decide +kernel
theorem dX5_task_8 : decode cX5_task 8 = .ok (.iconst 1, 1) := by decide +kernel
theorem dX5_task_9 : decode cX5_task 9 = .ok (.iconst 5, 1) := by decide +kernel
theorem dX5_task_10 : decode cX5_task 10 = .ok (.invokestatic 71, 3) := by decide +kernel
theorem dX5_task_13 : decode cX5_task 13 = .ok (.ifCond .ne 6, 3) := by decide +kernel
theorem dX5_task_16 : decode cX5_task 16 = .ok (.bipush (-2), 2) := by decide +kernel
theorem dX5_task_18 : decode cX5_task 18 = .ok (.ireturn, 1) := by decide +kernel
theorem dX5_task_19 : decode cX5_task 19 = .ok (.aload_n 0, 1) := by decide +kernel
theorem dX5_task_20 : decode cX5_task 20 = .ok (.getfield 34, 3) := by decide +kernel
theorem dX5_task_23 : decode cX5_task 23 = .ok (.iload_n 1, 1) := by decide +kernel
theorem dX5_task_24 : decode cX5_task 24 = .ok (.iload_n 2, 1) := by decide +kernel
theorem dX5_task_25 : decode cX5_task 25 = .ok (.iconst 0, 1) := by decide +kernel
theorem dX5_task_26 : decode cX5_task 26 = .ok (.invokevirtual 122, 3) := by decide +kernel
theorem dX5_task_29 : decode cX5_task 29 = .ok (.ireturn, 1) := by decide +kernel
theorem dX5_back_0 : decode cX5_back 0 = .ok (.aload_n 0, 1) := by decide +kernel
theorem dX5_back_1 : decode cX5_back 1 = .ok (.iload_n 1, 1) := by decide +kernel
theorem dX5_back_2 : decode cX5_back 2 = .ok (.invokevirtual 129, 3) := by decide +kernel
theorem dX5_back_5 : decode cX5_back 5 = .ok (.astore_n 2, 1) := by decide +kernel
theorem dX5_back_6 : decode cX5_back 6 = .ok (.aload_n 2, 1) := by decide +kernel
theorem dX5_back_7 : decode cX5_back 7 = .ok (.ifnonnull 6, 3) := by decide +kernel
theorem dX5_back_10 : decode cX5_back 10 = .ok (.bipush (-2), 2) := by decide +kernel
theorem dX5_back_12 : decode cX5_back 12 = .ok (.ireturn, 1) := by decide +kernel
theorem dX5_back_13 : decode cX5_back 13 = .ok (.aload_n 0, 1) := by decide +kernel
theorem dX5_back_14 : decode cX5_back 14 = .ok (.aload_n 2, 1) := by decide +kernel
theorem dX5_back_15 : decode cX5_back 15 = .ok (.invokevirtual 133, 3) := by decide +kernel
theorem dX5_back_18 : decode cX5_back 18 = .ok (.invokevirtual 79, 3) := by decide +kernel
theorem dX5_back_21 : decode cX5_back 21 = .ok (.ireturn, 1) := by decide +kernel
theorem dX5_read_0 : decode cX5_read 0 = .ok (.iload_n 1, 1) := by decide +kernel
theorem dX5_read_1 : decode cX5_read 1 = .ok (.invokestatic 134, 3) := by decide +kernel
theorem dX5_read_4 : decode cX5_read 4 = .ok (.ifCond .ne 6, 3) := by decide +kernel
theorem dX5_read_7 : decode cX5_read 7 = .ok (.bipush (-2), 2) := by decide +kernel
theorem dX5_read_9 : decode cX5_read 9 = .ok (.ireturn, 1) := by decide +kernel
theorem dX5_read_10 : decode cX5_read 10 = .ok (.aload_n 0, 1) := by decide +kernel
theorem dX5_read_11 : decode cX5_read 11 = .ok (.getfield 62, 3) := by decide +kernel
theorem dX5_read_14 : decode cX5_read 14 = .ok (.iload_n 1, 1) := by decide +kernel
theorem dX5_read_15 : decode cX5_read 15 = .ok (.aaload, 1) := by decide +kernel
theorem dX5_read_16 : decode cX5_read 16 = .ok (.astore_n 2, 1) := by decide +kernel
theorem dX5_read_17 : decode cX5_read 17 = .ok (.aload_n 2, 1) := by decide +kernel
theorem dX5_read_18 : decode cX5_read 18 = .ok (.invokevirtual 137, 3) := by decide +kernel
theorem dX5_read_21 : decode cX5_read 21 = .ok (.ifCond .eq 9, 3) := by decide +kernel
theorem dX5_read_24 : decode cX5_read 24 = .ok (.aload_n 0, 1) := by decide +kernel
theorem dX5_read_25 : decode cX5_read 25 = .ok (.iconst 1, 1) := by decide +kernel
theorem dX5_read_26 : decode cX5_read 26 = .ok (.invokevirtual 141, 3) := by decide +kernel
theorem dX5_read_29 : decode cX5_read 29 = .ok (.ireturn, 1) := by decide +kernel
theorem dX5_read_30 : decode cX5_read 30 = .ok (.iconst 0, 1) := by decide +kernel
theorem dX5_read_31 : decode cX5_read 31 = .ok (.istore_n 3, 1) := by decide +kernel
theorem dX5_read_32 : decode cX5_read 32 = .ok (.iconst 0, 1) := by decide +kernel
theorem dX5_read_33 : decode cX5_read 33 = .ok (.istore 4, 2) := by decide +kernel
theorem dX5_read_35 : decode cX5_read 35 = .ok (.iload 4, 2) := by decide +kernel
theorem dX5_read_37 : decode cX5_read 37 = .ok (.iconst 1, 1) := by decide +kernel
theorem dX5_read_38 : decode cX5_read 38 = .ok (.iadd, 1) := by decide +kernel
theorem dX5_read_39 : decode cX5_read 39 = .ok (.aload_n 2, 1) := by decide +kernel
theorem dX5_read_40 : decode cX5_read 40 = .ok (.invokevirtual 144, 3) := by decide +kernel
theorem dX5_read_43 : decode cX5_read 43 = .ok (.if_icmp .ge 36, 3) := by decide +kernel
theorem dX5_read_46 : decode cX5_read 46 = .ok (.aload_n 0, 1) := by decide +kernel
theorem dX5_read_47 : decode cX5_read 47 = .ok (.aload_n 2, 1) := by decide +kernel
theorem dX5_read_48 : decode cX5_read 48 = .ok (.iload 4, 2) := by decide +kernel
theorem dX5_read_50 : decode cX5_read 50 = .ok (.invokevirtual 147, 3) := by decide +kernel
theorem dX5_read_53 : decode cX5_read 53 = .ok (.aload_n 2, 1) := by decide +kernel
theorem dX5_read_54 : decode cX5_read 54 = .ok (.iload 4, 2) := by decide +kernel
theorem dX5_read_56 : decode cX5_read 56 = .ok (.iconst 1, 1) := by decide +kernel
theorem dX5_read_57 : decode cX5_read 57 = .ok (.iadd, 1) := by decide +kernel
theorem dX5_read_58 : decode cX5_read 58 = .ok (.invokevirtual 147, 3) := by decide +kernel
theorem dX5_read_61 : decode cX5_read 61 = .ok (.invokevirtual 150, 3) := by decide +kernel
theorem dX5_read_64 : decode cX5_read 64 = .ok (.ifCond .ge 6, 3) := by decide +kernel
theorem dX5_read_67 : decode cX5_read 67 = .ok (.goto 12, 3) := by decide +kernel
theorem dX5_read_70 : decode cX5_read 70 = .ok (.iinc 3 1, 3) := by decide +kernel
theorem dX5_read_73 : decode cX5_read 73 = .ok (.iinc 4 2, 3) := by decide +kernel
theorem dX5_read_76 : decode cX5_read 76 = .ok (.goto (-41), 3) := by decide +kernel
theorem dX5_read_79 : decode cX5_read 79 = .ok (.iload_n 3, 1) := by decide +kernel
theorem dX5_read_80 : decode cX5_read 80 = .ok (.ireturn, 1) := by decide +kernel
theorem dX5_rules_0 : decode cX5_rules 0 = .ok (.iload_n 1, 1) := by decide +kernel
theorem dX5_rules_1 : decode cX5_rules 1 = .ok (.invokestatic 119, 3) := by decide +kernel
theorem dX5_rules_4 : decode cX5_rules 4 = .ok (.ifCond .eq 14, 3) := by decide +kernel
theorem dX5_rules_7 : decode cX5_rules 7 = .ok (.aload_n 0, 1) := by decide +kernel
theorem dX5_rules_8 : decode cX5_rules 8 = .ok (.invokevirtual 153, 3) := by decide +kernel
theorem dX5_rules_11 : decode cX5_rules 11 = .ok (.iload_n 1, 1) := by decide +kernel
theorem dX5_rules_12 : decode cX5_rules 12 = .ok (.invokevirtual 157, 3) := by decide +kernel
theorem dX5_rules_15 : decode cX5_rules 15 = .ok (.goto 5, 3) := by decide +kernel
theorem dX5_rules_18 : decode cX5_rules 18 = .ok (.bipush (-2), 2) := by decide +kernel
theorem dX5_rules_20 : decode cX5_rules 20 = .ok (.ireturn, 1) := by decide +kernel
theorem dX5_allows_0 : decode cX5_allows 0 = .ok (.iload_n 1, 1) := by decide +kernel
theorem dX5_allows_1 : decode cX5_allows 1 = .ok (.invokestatic 119, 3) := by decide +kernel
theorem dX5_allows_4 : decode cX5_allows 4 = .ok (.ifCond .eq 10, 3) := by decide +kernel
theorem dX5_allows_7 : decode cX5_allows 7 = .ok (.iload_n 2, 1) := by decide +kernel
theorem dX5_allows_8 : decode cX5_allows 8 = .ok (.invokestatic 116, 3) := by decide +kernel
theorem dX5_allows_11 : decode cX5_allows 11 = .ok (.ifCond .ne 6, 3) := by decide +kernel
theorem dX5_allows_14 : decode cX5_allows 14 = .ok (.bipush (-2), 2) := by decide +kernel
theorem dX5_allows_16 : decode cX5_allows 16 = .ok (.ireturn, 1) := by decide +kernel
theorem dX5_allows_17 : decode cX5_allows 17 = .ok (.aload_n 0, 1) := by decide +kernel
theorem dX5_allows_18 : decode cX5_allows 18 = .ok (.invokevirtual 153, 3) := by decide +kernel
theorem dX5_allows_21 : decode cX5_allows 21 = .ok (.iload_n 1, 1) := by decide +kernel
theorem dX5_allows_22 : decode cX5_allows 22 = .ok (.iload_n 2, 1) := by decide +kernel
theorem dX5_allows_23 : decode cX5_allows 23 = .ok (.invokevirtual 160, 3) := by decide +kernel
theorem dX5_allows_26 : decode cX5_allows 26 = .ok (.ireturn, 1) := by decide +kernel
theorem dX5_allowed_0 : decode cX5_allowed 0 = .ok (.iload_n 1, 1) := by decide +kernel
theorem dX5_allowed_1 : decode cX5_allowed 1 = .ok (.invokestatic 119, 3) := by decide +kernel
theorem dX5_allowed_4 : decode cX5_allowed 4 = .ok (.ifCond .eq 14, 3) := by decide +kernel
theorem dX5_allowed_7 : decode cX5_allowed 7 = .ok (.aload_n 0, 1) := by decide +kernel
theorem dX5_allowed_8 : decode cX5_allowed 8 = .ok (.invokevirtual 153, 3) := by decide +kernel
theorem dX5_allowed_11 : decode cX5_allowed 11 = .ok (.iload_n 1, 1) := by decide +kernel
theorem dX5_allowed_12 : decode cX5_allowed 12 = .ok (.invokevirtual 163, 3) := by decide +kernel
theorem dX5_allowed_15 : decode cX5_allowed 15 = .ok (.goto 5, 3) := by decide +kernel
theorem dX5_allowed_18 : decode cX5_allowed 18 = .ok (.bipush (-2), 2) := by decide +kernel
theorem dX5_allowed_20 : decode cX5_allowed 20 = .ok (.ireturn, 1) := by decide +kernel
theorem dX5_never_0 : decode cX5_never 0 = .ok (.aload_n 0, 1) := by decide +kernel
theorem dX5_never_1 : decode cX5_never 1 = .ok (.invokevirtual 153, 3) := by decide +kernel
theorem dX5_never_4 : decode cX5_never 4 = .ok (.astore_n 1, 1) := by decide +kernel
theorem dX5_never_5 : decode cX5_never 5 = .ok (.aload_n 1, 1) := by decide +kernel
theorem dX5_never_6 : decode cX5_never 6 = .ok (.invokevirtual 166, 3) := by decide +kernel
theorem dX5_never_9 : decode cX5_never 9 = .ok (.istore_n 2, 1) := by decide +kernel
theorem dX5_never_10 : decode cX5_never 10 = .ok (.iconst 0, 1) := by decide +kernel
theorem dX5_never_11 : decode cX5_never 11 = .ok (.istore_n 3, 1) := by decide +kernel
theorem dX5_never_12 : decode cX5_never 12 = .ok (.iload_n 3, 1) := by decide +kernel
theorem dX5_never_13 : decode cX5_never 13 = .ok (.bipush 40, 2) := by decide +kernel
theorem dX5_never_15 : decode cX5_never 15 = .ok (.if_icmp .ge 19, 3) := by decide +kernel
theorem dX5_never_18 : decode cX5_never 18 = .ok (.iload_n 2, 1) := by decide +kernel
theorem dX5_never_19 : decode cX5_never 19 = .ok (.aload_n 1, 1) := by decide +kernel
theorem dX5_never_20 : decode cX5_never 20 = .ok (.iload_n 3, 1) := by decide +kernel
theorem dX5_never_21 : decode cX5_never 21 = .ok (.invokevirtual 163, 3) := by decide +kernel
theorem dX5_never_24 : decode cX5_never 24 = .ok (.iconst (-1), 1) := by decide +kernel
theorem dX5_never_25 : decode cX5_never 25 = .ok (.ixor, 1) := by decide +kernel
theorem dX5_never_26 : decode cX5_never 26 = .ok (.iand, 1) := by decide +kernel
theorem dX5_never_27 : decode cX5_never 27 = .ok (.istore_n 2, 1) := by decide +kernel
theorem dX5_never_28 : decode cX5_never 28 = .ok (.iinc 3 1, 3) := by decide +kernel
theorem dX5_never_31 : decode cX5_never 31 = .ok (.goto (-19), 3) := by decide +kernel
theorem dX5_never_34 : decode cX5_never 34 = .ok (.iload_n 2, 1) := by decide +kernel
theorem dX5_never_35 : decode cX5_never 35 = .ok (.ireturn, 1) := by decide +kernel
theorem dX5_alike_0 : decode cX5_alike 0 = .ok (.aload_n 0, 1) := by decide +kernel
theorem dX5_alike_1 : decode cX5_alike 1 = .ok (.invokevirtual 153, 3) := by decide +kernel
theorem dX5_alike_4 : decode cX5_alike 4 = .ok (.astore_n 1, 1) := by decide +kernel
theorem dX5_alike_5 : decode cX5_alike 5 = .ok (.iconst 0, 1) := by decide +kernel
theorem dX5_alike_6 : decode cX5_alike 6 = .ok (.istore_n 2, 1) := by decide +kernel
theorem dX5_alike_7 : decode cX5_alike 7 = .ok (.iload_n 2, 1) := by decide +kernel
theorem dX5_alike_8 : decode cX5_alike 8 = .ok (.bipush 40, 2) := by decide +kernel
theorem dX5_alike_10 : decode cX5_alike 10 = .ok (.if_icmp .ge 26, 3) := by decide +kernel
theorem dX5_alike_13 : decode cX5_alike 13 = .ok (.aload_n 1, 1) := by decide +kernel
theorem dX5_alike_14 : decode cX5_alike 14 = .ok (.iload_n 2, 1) := by decide +kernel
theorem dX5_alike_15 : decode cX5_alike 15 = .ok (.iconst 0, 1) := by decide +kernel
theorem dX5_alike_16 : decode cX5_alike 16 = .ok (.invokevirtual 160, 3) := by decide +kernel
theorem dX5_alike_19 : decode cX5_alike 19 = .ok (.aload_n 1, 1) := by decide +kernel
theorem dX5_alike_20 : decode cX5_alike 20 = .ok (.iload_n 2, 1) := by decide +kernel
theorem dX5_alike_21 : decode cX5_alike 21 = .ok (.iconst 1, 1) := by decide +kernel
theorem dX5_alike_22 : decode cX5_alike 22 = .ok (.invokevirtual 160, 3) := by decide +kernel
theorem dX5_alike_25 : decode cX5_alike 25 = .ok (.if_icmp .ne 5, 3) := by decide +kernel
theorem dX5_alike_28 : decode cX5_alike 28 = .ok (.iload_n 2, 1) := by decide +kernel
theorem dX5_alike_29 : decode cX5_alike 29 = .ok (.ireturn, 1) := by decide +kernel
theorem dX5_alike_30 : decode cX5_alike 30 = .ok (.iinc 2 1, 3) := by decide +kernel
theorem dX5_alike_33 : decode cX5_alike 33 = .ok (.goto (-26), 3) := by decide +kernel
theorem dX5_alike_36 : decode cX5_alike 36 = .ok (.iconst (-1), 1) := by decide +kernel
theorem dX5_alike_37 : decode cX5_alike 37 = .ok (.ireturn, 1) := by decide +kernel
theorem dX5_crossing_0 : decode cX5_crossing 0 = .ok (.aload_n 0, 1) := by decide +kernel
theorem dX5_crossing_1 : decode cX5_crossing 1 = .ok (.getfield 12, 3) := by decide +kernel
theorem dX5_crossing_4 : decode cX5_crossing 4 = .ok (.iload_n 1, 1) := by decide +kernel
theorem dX5_crossing_5 : decode cX5_crossing 5 = .ok (.invokevirtual 92, 3) := by decide +kernel
theorem dX5_crossing_8 : decode cX5_crossing 8 = .ok (.ifCond .eq 16, 3) := by decide +kernel
theorem dX5_crossing_11 : decode cX5_crossing 11 = .ok (.aload_n 0, 1) := by decide +kernel
theorem dX5_crossing_12 : decode cX5_crossing 12 = .ok (.invokevirtual 153, 3) := by decide +kernel
theorem dX5_crossing_15 : decode cX5_crossing 15 = .ok (.iload_n 1, 1) := by decide +kernel
theorem dX5_crossing_16 : decode cX5_crossing 16 = .ok (.iconst 2, 1) := by decide +kernel
theorem dX5_crossing_17 : decode cX5_crossing 17 = .ok (.invokevirtual 169, 3) := by decide +kernel
theorem dX5_crossing_20 : decode cX5_crossing 20 = .ok (.l2i, 1) := by decide +kernel
theorem dX5_crossing_21 : decode cX5_crossing 21 = .ok (.goto 5, 3) := by decide +kernel
theorem dX5_crossing_24 : decode cX5_crossing 24 = .ok (.bipush (-2), 2) := by decide +kernel
theorem dX5_crossing_26 : decode cX5_crossing 26 = .ok (.ireturn, 1) := by decide +kernel
theorem dX5_fined_0 : decode cX5_fined 0 = .ok (.iload_n 1, 1) := by decide +kernel
theorem dX5_fined_1 : decode cX5_fined 1 = .ok (.iconst 0, 1) := by decide +kernel
theorem dX5_fined_2 : decode cX5_fined 2 = .ok (.aload_n 0, 1) := by decide +kernel
theorem dX5_fined_3 : decode cX5_fined 3 = .ok (.getfield 31, 3) := by decide +kernel
theorem dX5_fined_6 : decode cX5_fined 6 = .ok (.invokevirtual 173, 3) := by decide +kernel
theorem dX5_fined_9 : decode cX5_fined 9 = .ok (.iconst 1, 1) := by decide +kernel
theorem dX5_fined_10 : decode cX5_fined 10 = .ok (.isub, 1) := by decide +kernel
theorem dX5_fined_11 : decode cX5_fined 11 = .ok (.invokestatic 71, 3) := by decide +kernel
theorem dX5_fined_14 : decode cX5_fined 14 = .ok (.ifCond .ne 6, 3) := by decide +kernel
theorem dX5_fined_17 : decode cX5_fined 17 = .ok (.bipush (-2), 2) := by decide +kernel
theorem dX5_fined_19 : decode cX5_fined 19 = .ok (.ireturn, 1) := by decide +kernel
theorem dX5_fined_20 : decode cX5_fined 20 = .ok (.aload_n 0, 1) := by decide +kernel
theorem dX5_fined_21 : decode cX5_fined 21 = .ok (.invokevirtual 153, 3) := by decide +kernel
theorem dX5_fined_24 : decode cX5_fined 24 = .ok (.astore_n 2, 1) := by decide +kernel
theorem dX5_fined_25 : decode cX5_fined 25 = .ok (.aload_n 0, 1) := by decide +kernel
theorem dX5_fined_26 : decode cX5_fined 26 = .ok (.aload_n 2, 1) := by decide +kernel
theorem dX5_fined_27 : decode cX5_fined 27 = .ok (.iload_n 1, 1) := by decide +kernel
theorem dX5_fined_28 : decode cX5_fined 28 = .ok (.iconst 0, 1) := by decide +kernel
theorem dX5_fined_29 : decode cX5_fined 29 = .ok (.invokevirtual 174, 3) := by decide +kernel
theorem dX5_fined_32 : decode cX5_fined 32 = .ok (.aload_n 0, 1) := by decide +kernel
theorem dX5_fined_33 : decode cX5_fined 33 = .ok (.aload_n 2, 1) := by decide +kernel
theorem dX5_fined_34 : decode cX5_fined 34 = .ok (.iload_n 1, 1) := by decide +kernel
theorem dX5_fined_35 : decode cX5_fined 35 = .ok (.iconst 1, 1) := by decide +kernel
theorem dX5_fined_36 : decode cX5_fined 36 = .ok (.invokevirtual 174, 3) := by decide +kernel
theorem dX5_fined_39 : decode cX5_fined 39 = .ok (.iadd, 1) := by decide +kernel
theorem dX5_fined_40 : decode cX5_fined 40 = .ok (.ireturn, 1) := by decide +kernel
theorem dX5_coins_0 : decode cX5_coins 0 = .ok (.iload_n 1, 1) := by decide +kernel
theorem dX5_coins_1 : decode cX5_coins 1 = .ok (.invokestatic 116, 3) := by decide +kernel
theorem dX5_coins_4 : decode cX5_coins 4 = .ok (.ifCond .ne 6, 3) := by decide +kernel
theorem dX5_coins_7 : decode cX5_coins 7 = .ok (.bipush (-2), 2) := by decide +kernel
theorem dX5_coins_9 : decode cX5_coins 9 = .ok (.ireturn, 1) := by decide +kernel
theorem dX5_coins_10 : decode cX5_coins 10 = .ok (.aload_n 0, 1) := by decide +kernel
theorem dX5_coins_11 : decode cX5_coins 11 = .ok (.invokevirtual 153, 3) := by decide +kernel
theorem dX5_coins_14 : decode cX5_coins 14 = .ok (.astore_n 2, 1) := by decide +kernel
theorem dX5_coins_15 : decode cX5_coins 15 = .ok (.iconst 0, 1) := by decide +kernel
theorem dX5_coins_16 : decode cX5_coins 16 = .ok (.istore_n 3, 1) := by decide +kernel
theorem dX5_coins_17 : decode cX5_coins 17 = .ok (.iconst 0, 1) := by decide +kernel
theorem dX5_coins_18 : decode cX5_coins 18 = .ok (.istore 4, 2) := by decide +kernel
theorem dX5_coins_20 : decode cX5_coins 20 = .ok (.iload 4, 2) := by decide +kernel
theorem dX5_coins_22 : decode cX5_coins 22 = .ok (.aload_n 0, 1) := by decide +kernel
theorem dX5_coins_23 : decode cX5_coins 23 = .ok (.getfield 31, 3) := by decide +kernel
theorem dX5_coins_26 : decode cX5_coins 26 = .ok (.invokevirtual 173, 3) := by decide +kernel
theorem dX5_coins_29 : decode cX5_coins 29 = .ok (.if_icmp .ge 20, 3) := by decide +kernel
theorem dX5_coins_32 : decode cX5_coins 32 = .ok (.iload_n 3, 1) := by decide +kernel
theorem dX5_coins_33 : decode cX5_coins 33 = .ok (.aload_n 0, 1) := by decide +kernel
theorem dX5_coins_34 : decode cX5_coins 34 = .ok (.aload_n 2, 1) := by decide +kernel
theorem dX5_coins_35 : decode cX5_coins 35 = .ok (.iload 4, 2) := by decide +kernel
theorem dX5_coins_37 : decode cX5_coins 37 = .ok (.iload_n 1, 1) := by decide +kernel
theorem dX5_coins_38 : decode cX5_coins 38 = .ok (.invokevirtual 174, 3) := by decide +kernel
theorem dX5_coins_41 : decode cX5_coins 41 = .ok (.iadd, 1) := by decide +kernel
theorem dX5_coins_42 : decode cX5_coins 42 = .ok (.istore_n 3, 1) := by decide +kernel
theorem dX5_coins_43 : decode cX5_coins 43 = .ok (.iinc 4 1, 3) := by decide +kernel
theorem dX5_coins_46 : decode cX5_coins 46 = .ok (.goto (-26), 3) := by decide +kernel
theorem dX5_coins_49 : decode cX5_coins 49 = .ok (.iload_n 3, 1) := by decide +kernel
theorem dX5_coins_50 : decode cX5_coins 50 = .ok (.ireturn, 1) := by decide +kernel
theorem dX5_soonest_0 : decode cX5_soonest 0 = .ok (.aload_n 0, 1) := by decide +kernel
theorem dX5_soonest_1 : decode cX5_soonest 1 = .ok (.getfield 12, 3) := by decide +kernel
theorem dX5_soonest_4 : decode cX5_soonest 4 = .ok (.iload_n 1, 1) := by decide +kernel
theorem dX5_soonest_5 : decode cX5_soonest 5 = .ok (.invokevirtual 92, 3) := by decide +kernel
theorem dX5_soonest_8 : decode cX5_soonest 8 = .ok (.ifCond .eq 20, 3) := by decide +kernel
theorem dX5_soonest_11 : decode cX5_soonest 11 = .ok (.iload_n 2, 1) := by decide +kernel
theorem dX5_soonest_12 : decode cX5_soonest 12 = .ok (.iconst 1, 1) := by decide +kernel
theorem dX5_soonest_13 : decode cX5_soonest 13 = .ok (.bipush 9, 2) := by decide +kernel
theorem dX5_soonest_15 : decode cX5_soonest 15 = .ok (.invokestatic 71, 3) := by decide +kernel
theorem dX5_soonest_18 : decode cX5_soonest 18 = .ok (.ifCond .eq 10, 3) := by decide +kernel
theorem dX5_soonest_21 : decode cX5_soonest 21 = .ok (.iload_n 3, 1) := by decide +kernel
theorem dX5_soonest_22 : decode cX5_soonest 22 = .ok (.invokestatic 119, 3) := by decide +kernel
theorem dX5_soonest_25 : decode cX5_soonest 25 = .ok (.ifCond .ne 6, 3) := by decide +kernel
theorem dX5_soonest_28 : decode cX5_soonest 28 = .ok (.bipush (-2), 2) := by decide +kernel
theorem dX5_soonest_30 : decode cX5_soonest 30 = .ok (.ireturn, 1) := by decide +kernel
theorem dX5_soonest_31 : decode cX5_soonest 31 = .ok (.aload_n 0, 1) := by decide +kernel
theorem dX5_soonest_32 : decode cX5_soonest 32 = .ok (.invokevirtual 153, 3) := by decide +kernel
theorem dX5_soonest_35 : decode cX5_soonest 35 = .ok (.iload_n 1, 1) := by decide +kernel
theorem dX5_soonest_36 : decode cX5_soonest 36 = .ok (.iload_n 2, 1) := by decide +kernel
theorem dX5_soonest_37 : decode cX5_soonest 37 = .ok (.invokevirtual 169, 3) := by decide +kernel
theorem dX5_soonest_40 : decode cX5_soonest 40 = .ok (.iload_n 3, 1) := by decide +kernel
theorem dX5_soonest_41 : decode cX5_soonest 41 = .ok (.invokestatic 178, 3) := by decide +kernel
theorem dX5_soonest_44 : decode cX5_soonest 44 = .ok (.ireturn, 1) := by decide +kernel
theorem dX5_cheapest_0 : decode cX5_cheapest 0 = .ok (.aload_n 0, 1) := by decide +kernel
theorem dX5_cheapest_1 : decode cX5_cheapest 1 = .ok (.getfield 12, 3) := by decide +kernel
theorem dX5_cheapest_4 : decode cX5_cheapest 4 = .ok (.iload_n 1, 1) := by decide +kernel
theorem dX5_cheapest_5 : decode cX5_cheapest 5 = .ok (.invokevirtual 92, 3) := by decide +kernel
theorem dX5_cheapest_8 : decode cX5_cheapest 8 = .ok (.ifCond .eq 30, 3) := by decide +kernel
theorem dX5_cheapest_11 : decode cX5_cheapest 11 = .ok (.iload_n 2, 1) := by decide +kernel
theorem dX5_cheapest_12 : decode cX5_cheapest 12 = .ok (.iconst 1, 1) := by decide +kernel
theorem dX5_cheapest_13 : decode cX5_cheapest 13 = .ok (.bipush 9, 2) := by decide +kernel
theorem dX5_cheapest_15 : decode cX5_cheapest 15 = .ok (.invokestatic 71, 3) := by decide +kernel
theorem dX5_cheapest_18 : decode cX5_cheapest 18 = .ok (.ifCond .eq 20, 3) := by decide +kernel
theorem dX5_cheapest_21 : decode cX5_cheapest 21 = .ok (.iload_n 3, 1) := by decide +kernel
theorem dX5_cheapest_22 : decode cX5_cheapest 22 = .ok (.invokestatic 119, 3) := by decide +kernel
theorem dX5_cheapest_25 : decode cX5_cheapest 25 = .ok (.ifCond .eq 13, 3) := by decide +kernel
theorem dX5_cheapest_28 : decode cX5_cheapest 28 = .ok (.iload 4, 2) := by decide +kernel
theorem dX5_cheapest_30 : decode cX5_cheapest 30 = .ok (.iconst 0, 1) := by decide +kernel
theorem dX5_cheapest_31 : decode cX5_cheapest 31 = .ok (.iconst 1, 1) := by decide +kernel
theorem dX5_cheapest_32 : decode cX5_cheapest 32 = .ok (.invokestatic 71, 3) := by decide +kernel
theorem dX5_cheapest_35 : decode cX5_cheapest 35 = .ok (.ifCond .ne 6, 3) := by decide +kernel
theorem dX5_cheapest_38 : decode cX5_cheapest 38 = .ok (.bipush (-2), 2) := by decide +kernel
theorem dX5_cheapest_40 : decode cX5_cheapest 40 = .ok (.ireturn, 1) := by decide +kernel
theorem dX5_cheapest_41 : decode cX5_cheapest 41 = .ok (.aload_n 0, 1) := by decide +kernel
theorem dX5_cheapest_42 : decode cX5_cheapest 42 = .ok (.invokevirtual 153, 3) := by decide +kernel
theorem dX5_cheapest_45 : decode cX5_cheapest 45 = .ok (.iload_n 1, 1) := by decide +kernel
theorem dX5_cheapest_46 : decode cX5_cheapest 46 = .ok (.invokevirtual 182, 3) := by decide +kernel
theorem dX5_cheapest_49 : decode cX5_cheapest 49 = .ok (.lstore 5, 2) := by decide +kernel
theorem dX5_cheapest_51 : decode cX5_cheapest 51 = .ok (.iconst (-1), 1) := by decide +kernel
theorem dX5_cheapest_52 : decode cX5_cheapest 52 = .ok (.istore 7, 2) := by decide +kernel
theorem dX5_cheapest_54 : decode cX5_cheapest 54 = .ok (.iconst (-1), 1) := by decide +kernel
theorem dX5_cheapest_55 : decode cX5_cheapest 55 = .ok (.istore 8, 2) := by decide +kernel
theorem dX5_cheapest_57 : decode cX5_cheapest 57 = .ok (.iload_n 3, 1) := by decide +kernel
theorem dX5_cheapest_58 : decode cX5_cheapest 58 = .ok (.istore 9, 2) := by decide +kernel
theorem dX5_cheapest_60 : decode cX5_cheapest 60 = .ok (.iload 9, 2) := by decide +kernel
theorem dX5_cheapest_62 : decode cX5_cheapest 62 = .ok (.iload_n 2, 1) := by decide +kernel
theorem dX5_cheapest_63 : decode cX5_cheapest 63 = .ok (.iadd, 1) := by decide +kernel
theorem dX5_cheapest_64 : decode cX5_cheapest 64 = .ok (.bipush 40, 2) := by decide +kernel
theorem dX5_cheapest_66 : decode cX5_cheapest 66 = .ok (.if_icmp .gt 49, 3) := by decide +kernel
theorem dX5_cheapest_69 : decode cX5_cheapest 69 = .ok (.aload_n 0, 1) := by decide +kernel
theorem dX5_cheapest_70 : decode cX5_cheapest 70 = .ok (.getfield 12, 3) := by decide +kernel
theorem dX5_cheapest_73 : decode cX5_cheapest 73 = .ok (.iload_n 1, 1) := by decide +kernel
theorem dX5_cheapest_74 : decode cX5_cheapest 74 = .ok (.invokevirtual 96, 3) := by decide +kernel
theorem dX5_cheapest_77 : decode cX5_cheapest 77 = .ok (.lload 5, 2) := by decide +kernel
theorem dX5_cheapest_79 : decode cX5_cheapest 79 = .ok (.iload 9, 2) := by decide +kernel
theorem dX5_cheapest_81 : decode cX5_cheapest 81 = .ok (.iload_n 2, 1) := by decide +kernel
theorem dX5_cheapest_82 : decode cX5_cheapest 82 = .ok (.invokestatic 186, 3) := by decide +kernel
theorem dX5_cheapest_85 : decode cX5_cheapest 85 = .ok (.imul, 1) := by decide +kernel
theorem dX5_cheapest_86 : decode cX5_cheapest 86 = .ok (.istore 10, 2) := by decide +kernel
theorem dX5_cheapest_88 : decode cX5_cheapest 88 = .ok (.iload 7, 2) := by decide +kernel
theorem dX5_cheapest_90 : decode cX5_cheapest 90 = .ok (.iconst (-1), 1) := by decide +kernel
theorem dX5_cheapest_91 : decode cX5_cheapest 91 = .ok (.if_icmp .eq 10, 3) := by decide +kernel
theorem dX5_cheapest_94 : decode cX5_cheapest 94 = .ok (.iload 10, 2) := by decide +kernel
theorem dX5_cheapest_96 : decode cX5_cheapest 96 = .ok (.iload 8, 2) := by decide +kernel
theorem dX5_cheapest_98 : decode cX5_cheapest 98 = .ok (.if_icmp .ge 11, 3) := by decide +kernel
theorem dX5_cheapest_101 : decode cX5_cheapest 101 = .ok (.iload 9, 2) := by decide +kernel
theorem dX5_cheapest_103 : decode cX5_cheapest 103 = .ok (.istore 7, 2) := by decide +kernel
theorem dX5_cheapest_105 : decode cX5_cheapest 105 = .ok (.iload 10, 2) := by decide +kernel
theorem dX5_cheapest_107 : decode cX5_cheapest 107 = .ok (.istore 8, 2) := by decide +kernel
theorem dX5_cheapest_109 : decode cX5_cheapest 109 = .ok (.iinc 9 1, 3) := by decide +kernel
theorem dX5_cheapest_112 : decode cX5_cheapest 112 = .ok (.goto (-52), 3) := by decide +kernel
theorem dX5_cheapest_115 : decode cX5_cheapest 115 = .ok (.iload 4, 2) := by decide +kernel
theorem dX5_cheapest_117 : decode cX5_cheapest 117 = .ok (.ifCond .ne 8, 3) := by decide +kernel
theorem dX5_cheapest_120 : decode cX5_cheapest 120 = .ok (.iload 7, 2) := by decide +kernel
theorem dX5_cheapest_122 : decode cX5_cheapest 122 = .ok (.goto 5, 3) := by decide +kernel
theorem dX5_cheapest_125 : decode cX5_cheapest 125 = .ok (.iload 8, 2) := by decide +kernel
theorem dX5_cheapest_127 : decode cX5_cheapest 127 = .ok (.ireturn, 1) := by decide +kernel
theorem dX5_finish_0 : decode cX5_finish 0 = .ok (.iload_n 1, 1) := by decide +kernel
theorem dX5_finish_1 : decode cX5_finish 1 = .ok (.invokestatic 119, 3) := by decide +kernel
theorem dX5_finish_4 : decode cX5_finish 4 = .ok (.ifCond .eq 12, 3) := by decide +kernel
theorem dX5_finish_7 : decode cX5_finish 7 = .ok (.iload_n 2, 1) := by decide +kernel
theorem dX5_finish_8 : decode cX5_finish 8 = .ok (.iconst (-1), 1) := by decide +kernel
theorem dX5_finish_9 : decode cX5_finish 9 = .ok (.iconst 5, 1) := by decide +kernel
theorem dX5_finish_10 : decode cX5_finish 10 = .ok (.invokestatic 71, 3) := by decide +kernel
theorem dX5_finish_13 : decode cX5_finish 13 = .ok (.ifCond .ne 6, 3) := by decide +kernel
theorem dX5_finish_16 : decode cX5_finish 16 = .ok (.bipush (-2), 2) := by decide +kernel
theorem dX5_finish_18 : decode cX5_finish 18 = .ok (.ireturn, 1) := by decide +kernel
theorem dX5_finish_19 : decode cX5_finish 19 = .ok (.aload_n 0, 1) := by decide +kernel
theorem dX5_finish_20 : decode cX5_finish 20 = .ok (.getfield 56, 3) := by decide +kernel
theorem dX5_finish_23 : decode cX5_finish 23 = .ok (.aload_n 0, 1) := by decide +kernel
theorem dX5_finish_24 : decode cX5_finish 24 = .ok (.getfield 34, 3) := by decide +kernel
theorem dX5_finish_27 : decode cX5_finish 27 = .ok (.aload_n 0, 1) := by decide +kernel
theorem dX5_finish_28 : decode cX5_finish 28 = .ok (.invokevirtual 153, 3) := by decide +kernel
theorem dX5_finish_31 : decode cX5_finish 31 = .ok (.invokevirtual 190, 3) := by decide +kernel
theorem dX5_finish_34 : decode cX5_finish 34 = .ok (.aload_n 0, 1) := by decide +kernel
theorem dX5_finish_35 : decode cX5_finish 35 = .ok (.getfield 56, 3) := by decide +kernel
theorem dX5_finish_38 : decode cX5_finish 38 = .ok (.iload_n 1, 1) := by decide +kernel
theorem dX5_finish_39 : decode cX5_finish 39 = .ok (.invokevirtual 194, 3) := by decide +kernel
theorem dX5_finish_42 : decode cX5_finish 42 = .ok (.istore_n 3, 1) := by decide +kernel
theorem dX5_finish_43 : decode cX5_finish 43 = .ok (.iload_n 3, 1) := by decide +kernel
theorem dX5_finish_44 : decode cX5_finish 44 = .ok (.iconst (-1), 1) := by decide +kernel
theorem dX5_finish_45 : decode cX5_finish 45 = .ok (.if_icmp .eq 8, 3) := by decide +kernel
theorem dX5_finish_48 : decode cX5_finish 48 = .ok (.iload_n 2, 1) := by decide +kernel
theorem dX5_finish_49 : decode cX5_finish 49 = .ok (.iconst (-1), 1) := by decide +kernel
theorem dX5_finish_50 : decode cX5_finish 50 = .ok (.if_icmp .ne 5, 3) := by decide +kernel
theorem dX5_finish_53 : decode cX5_finish 53 = .ok (.iload_n 3, 1) := by decide +kernel
theorem dX5_finish_54 : decode cX5_finish 54 = .ok (.ireturn, 1) := by decide +kernel
theorem dX5_finish_55 : decode cX5_finish 55 = .ok (.aload_n 0, 1) := by decide +kernel
theorem dX5_finish_56 : decode cX5_finish 56 = .ok (.getfield 56, 3) := by decide +kernel
theorem dX5_finish_59 : decode cX5_finish 59 = .ok (.iload_n 2, 1) := by decide +kernel
theorem dX5_finish_60 : decode cX5_finish 60 = .ok (.invokevirtual 197, 3) := by decide +kernel
theorem dX5_finish_63 : decode cX5_finish 63 = .ok (.ireturn, 1) := by decide +kernel
theorem dX5_plan_0 : decode cX5_plan 0 = .ok (.iload_n 1, 1) := by decide +kernel
theorem dX5_plan_1 : decode cX5_plan 1 = .ok (.invokestatic 119, 3) := by decide +kernel
theorem dX5_plan_4 : decode cX5_plan 4 = .ok (.ifCond .eq 12, 3) := by decide +kernel
theorem dX5_plan_7 : decode cX5_plan 7 = .ok (.iload_n 2, 1) := by decide +kernel
theorem dX5_plan_8 : decode cX5_plan 8 = .ok (.iconst (-1), 1) := by decide +kernel
theorem dX5_plan_9 : decode cX5_plan 9 = .ok (.iconst 5, 1) := by decide +kernel
theorem dX5_plan_10 : decode cX5_plan 10 = .ok (.invokestatic 71, 3) := by decide +kernel
theorem dX5_plan_13 : decode cX5_plan 13 = .ok (.ifCond .ne 6, 3) := by decide +kernel
theorem dX5_plan_16 : decode cX5_plan 16 = .ok (.bipush (-2), 2) := by decide +kernel
theorem dX5_plan_18 : decode cX5_plan 18 = .ok (.ireturn, 1) := by decide +kernel
theorem dX5_plan_19 : decode cX5_plan 19 = .ok (.aload_n 0, 1) := by decide +kernel
theorem dX5_plan_20 : decode cX5_plan 20 = .ok (.getfield 56, 3) := by decide +kernel
theorem dX5_plan_23 : decode cX5_plan 23 = .ok (.aload_n 0, 1) := by decide +kernel
theorem dX5_plan_24 : decode cX5_plan 24 = .ok (.getfield 34, 3) := by decide +kernel
theorem dX5_plan_27 : decode cX5_plan 27 = .ok (.aload_n 0, 1) := by decide +kernel
theorem dX5_plan_28 : decode cX5_plan 28 = .ok (.invokevirtual 153, 3) := by decide +kernel
theorem dX5_plan_31 : decode cX5_plan 31 = .ok (.invokevirtual 190, 3) := by decide +kernel
theorem dX5_plan_34 : decode cX5_plan 34 = .ok (.aload_n 0, 1) := by decide +kernel
theorem dX5_plan_35 : decode cX5_plan 35 = .ok (.getfield 56, 3) := by decide +kernel
theorem dX5_plan_38 : decode cX5_plan 38 = .ok (.iload_n 1, 1) := by decide +kernel
theorem dX5_plan_39 : decode cX5_plan 39 = .ok (.invokevirtual 200, 3) := by decide +kernel
theorem dX5_plan_42 : decode cX5_plan 42 = .ok (.istore_n 3, 1) := by decide +kernel
theorem dX5_plan_43 : decode cX5_plan 43 = .ok (.iload_n 3, 1) := by decide +kernel
theorem dX5_plan_44 : decode cX5_plan 44 = .ok (.iconst (-1), 1) := by decide +kernel
theorem dX5_plan_45 : decode cX5_plan 45 = .ok (.if_icmp .eq 8, 3) := by decide +kernel
theorem dX5_plan_48 : decode cX5_plan 48 = .ok (.iload_n 2, 1) := by decide +kernel
theorem dX5_plan_49 : decode cX5_plan 49 = .ok (.iconst (-1), 1) := by decide +kernel
theorem dX5_plan_50 : decode cX5_plan 50 = .ok (.if_icmp .ne 5, 3) := by decide +kernel
theorem dX5_plan_53 : decode cX5_plan 53 = .ok (.iload_n 3, 1) := by decide +kernel
theorem dX5_plan_54 : decode cX5_plan 54 = .ok (.ireturn, 1) := by decide +kernel
theorem dX5_plan_55 : decode cX5_plan 55 = .ok (.aload_n 0, 1) := by decide +kernel
theorem dX5_plan_56 : decode cX5_plan 56 = .ok (.getfield 56, 3) := by decide +kernel
theorem dX5_plan_59 : decode cX5_plan 59 = .ok (.iload_n 2, 1) := by decide +kernel
theorem dX5_plan_60 : decode cX5_plan 60 = .ok (.invokevirtual 203, 3) := by decide +kernel
theorem dX5_plan_63 : decode cX5_plan 63 = .ok (.ireturn, 1) := by decide +kernel
theorem dX5_words_0 : decode cX5_words 0 = .ok (.iload_n 1, 1) := by decide +kernel
theorem dX5_words_1 : decode cX5_words 1 = .ok (.invokestatic 119, 3) := by decide +kernel
theorem dX5_words_4 : decode cX5_words 4 = .ok (.ifCond .eq 29, 3) := by decide +kernel
theorem dX5_words_7 : decode cX5_words 7 = .ok (.iload_n 2, 1) := by decide +kernel
theorem dX5_words_8 : decode cX5_words 8 = .ok (.iconst 1, 1) := by decide +kernel
theorem dX5_words_9 : decode cX5_words 9 = .ok (.iconst 3, 1) := by decide +kernel
theorem dX5_words_10 : decode cX5_words 10 = .ok (.invokestatic 71, 3) := by decide +kernel
theorem dX5_words_13 : decode cX5_words 13 = .ok (.ifCond .eq 20, 3) := by decide +kernel
theorem dX5_words_16 : decode cX5_words 16 = .ok (.iload_n 1, 1) := by decide +kernel
theorem dX5_words_17 : decode cX5_words 17 = .ok (.iload_n 2, 1) := by decide +kernel
theorem dX5_words_18 : decode cX5_words 18 = .ok (.iadd, 1) := by decide +kernel
theorem dX5_words_19 : decode cX5_words 19 = .ok (.bipush 39, 2) := by decide +kernel
theorem dX5_words_21 : decode cX5_words 21 = .ok (.if_icmp .gt 12, 3) := by decide +kernel
theorem dX5_words_24 : decode cX5_words 24 = .ok (.iload_n 3, 1) := by decide +kernel
theorem dX5_words_25 : decode cX5_words 25 = .ok (.iconst 0, 1) := by decide +kernel
theorem dX5_words_26 : decode cX5_words 26 = .ok (.iconst 1, 1) := by decide +kernel
theorem dX5_words_27 : decode cX5_words 27 = .ok (.invokestatic 71, 3) := by decide +kernel
theorem dX5_words_30 : decode cX5_words 30 = .ok (.ifCond .ne 6, 3) := by decide +kernel
theorem dX5_words_33 : decode cX5_words 33 = .ok (.bipush (-2), 2) := by decide +kernel
theorem dX5_words_35 : decode cX5_words 35 = .ok (.ireturn, 1) := by decide +kernel
theorem dX5_words_36 : decode cX5_words 36 = .ok (.aload_n 0, 1) := by decide +kernel
theorem dX5_words_37 : decode cX5_words 37 = .ok (.invokevirtual 153, 3) := by decide +kernel
theorem dX5_words_40 : decode cX5_words 40 = .ok (.astore 4, 2) := by decide +kernel
theorem dX5_words_42 : decode cX5_words 42 = .ok (.iload_n 3, 1) := by decide +kernel
theorem dX5_words_43 : decode cX5_words 43 = .ok (.ifCond .ne 13, 3) := by decide +kernel
theorem dX5_words_46 : decode cX5_words 46 = .ok (.aload 4, 2) := by decide +kernel
theorem dX5_words_48 : decode cX5_words 48 = .ok (.iload_n 1, 1) := by decide +kernel
theorem dX5_words_49 : decode cX5_words 49 = .ok (.iload_n 2, 1) := by decide +kernel
theorem dX5_words_50 : decode cX5_words 50 = .ok (.invokevirtual 206, 3) := by decide +kernel
theorem dX5_words_53 : decode cX5_words 53 = .ok (.goto 10, 3) := by decide +kernel
theorem dX5_words_56 : decode cX5_words 56 = .ok (.aload 4, 2) := by decide +kernel
theorem dX5_words_58 : decode cX5_words 58 = .ok (.iload_n 1, 1) := by decide +kernel
theorem dX5_words_59 : decode cX5_words 59 = .ok (.iload_n 2, 1) := by decide +kernel
theorem dX5_words_60 : decode cX5_words 60 = .ok (.invokevirtual 209, 3) := by decide +kernel
theorem dX5_words_63 : decode cX5_words 63 = .ok (.ireturn, 1) := by decide +kernel
theorem dX5_seen_0 : decode cX5_seen 0 = .ok (.iload_n 1, 1) := by decide +kernel
theorem dX5_seen_1 : decode cX5_seen 1 = .ok (.invokestatic 126, 3) := by decide +kernel
theorem dX5_seen_4 : decode cX5_seen 4 = .ok (.ifCond .eq 12, 3) := by decide +kernel
theorem dX5_seen_7 : decode cX5_seen 7 = .ok (.iload_n 2, 1) := by decide +kernel
theorem dX5_seen_8 : decode cX5_seen 8 = .ok (.iconst 0, 1) := by decide +kernel
theorem dX5_seen_9 : decode cX5_seen 9 = .ok (.iconst 1, 1) := by decide +kernel
theorem dX5_seen_10 : decode cX5_seen 10 = .ok (.invokestatic 71, 3) := by decide +kernel
theorem dX5_seen_13 : decode cX5_seen 13 = .ok (.ifCond .ne 6, 3) := by decide +kernel
theorem dX5_seen_16 : decode cX5_seen 16 = .ok (.bipush (-2), 2) := by decide +kernel
theorem dX5_seen_18 : decode cX5_seen 18 = .ok (.ireturn, 1) := by decide +kernel
theorem dX5_seen_19 : decode cX5_seen 19 = .ok (.aload_n 0, 1) := by decide +kernel
theorem dX5_seen_20 : decode cX5_seen 20 = .ok (.getfield 37, 3) := by decide +kernel
theorem dX5_seen_23 : decode cX5_seen 23 = .ok (.iload_n 1, 1) := by decide +kernel
theorem dX5_seen_24 : decode cX5_seen 24 = .ok (.iload_n 2, 1) := by decide +kernel
theorem dX5_seen_25 : decode cX5_seen 25 = .ok (.iconst 0, 1) := by decide +kernel
theorem dX5_seen_26 : decode cX5_seen 26 = .ok (.invokevirtual 122, 3) := by decide +kernel
theorem dX5_seen_29 : decode cX5_seen 29 = .ok (.ireturn, 1) := by decide +kernel
theorem dX5_book_0 : decode cX5_book 0 = .ok (.iload_n 1, 1) := by decide +kernel
theorem dX5_book_1 : decode cX5_book 1 = .ok (.invokestatic 119, 3) := by decide +kernel
theorem dX5_book_4 : decode cX5_book 4 = .ok (.ifCond .eq 19, 3) := by decide +kernel
theorem dX5_book_7 : decode cX5_book 7 = .ok (.iload_n 2, 1) := by decide +kernel
theorem dX5_book_8 : decode cX5_book 8 = .ok (.invokestatic 126, 3) := by decide +kernel
theorem dX5_book_11 : decode cX5_book 11 = .ok (.ifCond .eq 12, 3) := by decide +kernel
theorem dX5_book_14 : decode cX5_book 14 = .ok (.iload_n 3, 1) := by decide +kernel
theorem dX5_book_15 : decode cX5_book 15 = .ok (.iconst 0, 1) := by decide +kernel
theorem dX5_book_16 : decode cX5_book 16 = .ok (.iconst 1, 1) := by decide +kernel
theorem dX5_book_17 : decode cX5_book 17 = .ok (.invokestatic 71, 3) := by decide +kernel
theorem dX5_book_20 : decode cX5_book 20 = .ok (.ifCond .ne 6, 3) := by decide +kernel
theorem dX5_book_23 : decode cX5_book 23 = .ok (.bipush (-2), 2) := by decide +kernel
theorem dX5_book_25 : decode cX5_book 25 = .ok (.ireturn, 1) := by decide +kernel
theorem dX5_book_26 : decode cX5_book 26 = .ok (.aload_n 0, 1) := by decide +kernel
theorem dX5_book_27 : decode cX5_book 27 = .ok (.getfield 40, 3) := by decide +kernel
theorem dX5_book_30 : decode cX5_book 30 = .ok (.iload_n 1, 1) := by decide +kernel
theorem dX5_book_31 : decode cX5_book 31 = .ok (.iload_n 2, 1) := by decide +kernel
theorem dX5_book_32 : decode cX5_book 32 = .ok (.iload_n 3, 1) := by decide +kernel
theorem dX5_book_33 : decode cX5_book 33 = .ok (.invokevirtual 122, 3) := by decide +kernel
theorem dX5_book_36 : decode cX5_book 36 = .ok (.ireturn, 1) := by decide +kernel
theorem dX5_forget_0 : decode cX5_forget 0 = .ok (.iload_n 1, 1) := by decide +kernel
theorem dX5_forget_1 : decode cX5_forget 1 = .ok (.iconst 0, 1) := by decide +kernel
theorem dX5_forget_2 : decode cX5_forget 2 = .ok (.iconst 1, 1) := by decide +kernel
theorem dX5_forget_3 : decode cX5_forget 3 = .ok (.invokestatic 71, 3) := by decide +kernel
theorem dX5_forget_6 : decode cX5_forget 6 = .ok (.ifCond .ne 6, 3) := by decide +kernel
theorem dX5_forget_9 : decode cX5_forget 9 = .ok (.bipush (-2), 2) := by decide +kernel
theorem dX5_forget_11 : decode cX5_forget 11 = .ok (.ireturn, 1) := by decide +kernel
theorem dX5_forget_12 : decode cX5_forget 12 = .ok (.iload_n 1, 1) := by decide +kernel
theorem dX5_forget_13 : decode cX5_forget 13 = .ok (.ifCond .ne 13, 3) := by decide +kernel
theorem dX5_forget_16 : decode cX5_forget 16 = .ok (.aload_n 0, 1) := by decide +kernel
theorem dX5_forget_17 : decode cX5_forget 17 = .ok (.getfield 37, 3) := by decide +kernel
theorem dX5_forget_20 : decode cX5_forget 20 = .ok (.invokevirtual 212, 3) := by decide +kernel
theorem dX5_forget_23 : decode cX5_forget 23 = .ok (.goto 10, 3) := by decide +kernel
theorem dX5_forget_26 : decode cX5_forget 26 = .ok (.aload_n 0, 1) := by decide +kernel
theorem dX5_forget_27 : decode cX5_forget 27 = .ok (.getfield 40, 3) := by decide +kernel
theorem dX5_forget_30 : decode cX5_forget 30 = .ok (.invokevirtual 212, 3) := by decide +kernel
theorem dX5_forget_33 : decode cX5_forget 33 = .ok (.ireturn, 1) := by decide +kernel
theorem dX5_when_0 : decode cX5_when 0 = .ok (.iload_n 1, 1) := by decide +kernel
theorem dX5_when_1 : decode cX5_when 1 = .ok (.iconst (-1), 1) := by decide +kernel
theorem dX5_when_2 : decode cX5_when 2 = .ok (.bipush 39, 2) := by decide +kernel
theorem dX5_when_4 : decode cX5_when 4 = .ok (.invokestatic 71, 3) := by decide +kernel
theorem dX5_when_7 : decode cX5_when 7 = .ok (.ifCond .ne 6, 3) := by decide +kernel
theorem dX5_when_10 : decode cX5_when 10 = .ok (.bipush (-2), 2) := by decide +kernel
theorem dX5_when_12 : decode cX5_when 12 = .ok (.ireturn, 1) := by decide +kernel
theorem dX5_when_13 : decode cX5_when 13 = .ok (.aload_n 0, 1) := by decide +kernel
theorem dX5_when_14 : decode cX5_when 14 = .ok (.invokevirtual 213, 3) := by decide +kernel
theorem dX5_when_17 : decode cX5_when 17 = .ok (.lstore_n 2, 1) := by decide +kernel
theorem dX5_when_18 : decode cX5_when 18 = .ok (.iload_n 1, 1) := by decide +kernel
theorem dX5_when_19 : decode cX5_when 19 = .ok (.iconst (-1), 1) := by decide +kernel
theorem dX5_when_20 : decode cX5_when 20 = .ok (.if_icmp .ne 10, 3) := by decide +kernel
theorem dX5_when_23 : decode cX5_when 23 = .ok (.lload_n 2, 1) := by decide +kernel
theorem dX5_when_24 : decode cX5_when 24 = .ok (.invokestatic 217, 3) := by decide +kernel
theorem dX5_when_27 : decode cX5_when 27 = .ok (.goto 8, 3) := by decide +kernel
theorem dX5_when_30 : decode cX5_when 30 = .ok (.lload_n 2, 1) := by decide +kernel
theorem dX5_when_31 : decode cX5_when 31 = .ok (.iload_n 1, 1) := by decide +kernel
theorem dX5_when_32 : decode cX5_when 32 = .ok (.invokestatic 223, 3) := by decide +kernel
theorem dX5_when_35 : decode cX5_when 35 = .ok (.ireturn, 1) := by decide +kernel
theorem dX5_ask_0 : decode cX5_ask 0 = .ok (.aload_n 0, 1) := by decide +kernel
theorem dX5_ask_1 : decode cX5_ask 1 = .ok (.invokevirtual 153, 3) := by decide +kernel
theorem dX5_ask_4 : decode cX5_ask 4 = .ok (.astore_n 1, 1) := by decide +kernel
theorem dX5_ask_5 : decode cX5_ask 5 = .ok (.aload_n 0, 1) := by decide +kernel
theorem dX5_ask_6 : decode cX5_ask 6 = .ok (.invokevirtual 213, 3) := by decide +kernel
theorem dX5_ask_9 : decode cX5_ask 9 = .ok (.lstore_n 2, 1) := by decide +kernel
theorem dX5_ask_10 : decode cX5_ask 10 = .ok (.iconst (-1), 1) := by decide +kernel
theorem dX5_ask_11 : decode cX5_ask 11 = .ok (.istore 4, 2) := by decide +kernel
theorem dX5_ask_13 : decode cX5_ask 13 = .ok (.iconst 0, 1) := by decide +kernel
theorem dX5_ask_14 : decode cX5_ask 14 = .ok (.istore 5, 2) := by decide +kernel
theorem dX5_ask_16 : decode cX5_ask 16 = .ok (.iconst 0, 1) := by decide +kernel
theorem dX5_ask_17 : decode cX5_ask 17 = .ok (.istore 6, 2) := by decide +kernel
theorem dX5_ask_19 : decode cX5_ask 19 = .ok (.iload 6, 2) := by decide +kernel
theorem dX5_ask_21 : decode cX5_ask 21 = .ok (.aload_n 0, 1) := by decide +kernel
theorem dX5_ask_22 : decode cX5_ask 22 = .ok (.getfield 12, 3) := by decide +kernel
theorem dX5_ask_25 : decode cX5_ask 25 = .ok (.invokevirtual 226, 3) := by decide +kernel
theorem dX5_ask_28 : decode cX5_ask 28 = .ok (.if_icmp .ge 57, 3) := by decide +kernel
theorem dX5_ask_31 : decode cX5_ask 31 = .ok (.lload_n 2, 1) := by decide +kernel
theorem dX5_ask_32 : decode cX5_ask 32 = .ok (.aload_n 1, 1) := by decide +kernel
theorem dX5_ask_33 : decode cX5_ask 33 = .ok (.iload 6, 2) := by decide +kernel
theorem dX5_ask_35 : decode cX5_ask 35 = .ok (.invokevirtual 182, 3) := by decide +kernel
theorem dX5_ask_38 : decode cX5_ask 38 = .ok (.land, 1) := by decide +kernel
theorem dX5_ask_39 : decode cX5_ask 39 = .ok (.invokestatic 217, 3) := by decide +kernel
theorem dX5_ask_42 : decode cX5_ask 42 = .ok (.istore 7, 2) := by decide +kernel
theorem dX5_ask_44 : decode cX5_ask 44 = .ok (.iload 7, 2) := by decide +kernel
theorem dX5_ask_46 : decode cX5_ask 46 = .ok (.lload_n 2, 1) := by decide +kernel
theorem dX5_ask_47 : decode cX5_ask 47 = .ok (.invokestatic 217, 3) := by decide +kernel
theorem dX5_ask_50 : decode cX5_ask 50 = .ok (.iload 7, 2) := by decide +kernel
theorem dX5_ask_52 : decode cX5_ask 52 = .ok (.isub, 1) := by decide +kernel
theorem dX5_ask_53 : decode cX5_ask 53 = .ok (.invokestatic 229, 3) := by decide +kernel
theorem dX5_ask_56 : decode cX5_ask 56 = .ok (.istore 8, 2) := by decide +kernel
theorem dX5_ask_58 : decode cX5_ask 58 = .ok (.iload 4, 2) := by decide +kernel
theorem dX5_ask_60 : decode cX5_ask 60 = .ok (.iconst (-1), 1) := by decide +kernel
theorem dX5_ask_61 : decode cX5_ask 61 = .ok (.if_icmp .eq 10, 3) := by decide +kernel
theorem dX5_ask_64 : decode cX5_ask 64 = .ok (.iload 8, 2) := by decide +kernel
theorem dX5_ask_66 : decode cX5_ask 66 = .ok (.iload 5, 2) := by decide +kernel
theorem dX5_ask_68 : decode cX5_ask 68 = .ok (.if_icmp .ge 11, 3) := by decide +kernel
theorem dX5_ask_71 : decode cX5_ask 71 = .ok (.iload 6, 2) := by decide +kernel
theorem dX5_ask_73 : decode cX5_ask 73 = .ok (.istore 4, 2) := by decide +kernel
theorem dX5_ask_75 : decode cX5_ask 75 = .ok (.iload 8, 2) := by decide +kernel
theorem dX5_ask_77 : decode cX5_ask 77 = .ok (.istore 5, 2) := by decide +kernel
theorem dX5_ask_79 : decode cX5_ask 79 = .ok (.iinc 6 1, 3) := by decide +kernel
theorem dX5_ask_82 : decode cX5_ask 82 = .ok (.goto (-63), 3) := by decide +kernel
theorem dX5_ask_85 : decode cX5_ask 85 = .ok (.iload 4, 2) := by decide +kernel
theorem dX5_ask_87 : decode cX5_ask 87 = .ok (.ireturn, 1) := by decide +kernel
theorem dX5_forged_0 : decode cX5_forged 0 = .ok (.iconst 0, 1) := by decide +kernel
theorem dX5_forged_1 : decode cX5_forged 1 = .ok (.istore_n 1, 1) := by decide +kernel
theorem dX5_forged_2 : decode cX5_forged 2 = .ok (.aload_n 0, 1) := by decide +kernel
theorem dX5_forged_3 : decode cX5_forged 3 = .ok (.getfield 50, 3) := by decide +kernel
theorem dX5_forged_6 : decode cX5_forged 6 = .ok (.aload_n 0, 1) := by decide +kernel
theorem dX5_forged_7 : decode cX5_forged 7 = .ok (.getfield 21, 3) := by decide +kernel
theorem dX5_forged_10 : decode cX5_forged 10 = .ok (.aload_n 0, 1) := by decide +kernel
theorem dX5_forged_11 : decode cX5_forged 11 = .ok (.getfield 25, 3) := by decide +kernel
theorem dX5_forged_14 : decode cX5_forged 14 = .ok (.invokevirtual 234, 3) := by decide +kernel
theorem dX5_forged_17 : decode cX5_forged 17 = .ok (.iconst 0, 1) := by decide +kernel
theorem dX5_forged_18 : decode cX5_forged 18 = .ok (.istore_n 2, 1) := by decide +kernel
theorem dX5_forged_19 : decode cX5_forged 19 = .ok (.iload_n 2, 1) := by decide +kernel
theorem dX5_forged_20 : decode cX5_forged 20 = .ok (.aload_n 0, 1) := by decide +kernel
theorem dX5_forged_21 : decode cX5_forged 21 = .ok (.getfield 28, 3) := by decide +kernel
theorem dX5_forged_24 : decode cX5_forged 24 = .ok (.invokevirtual 173, 3) := by decide +kernel
theorem dX5_forged_27 : decode cX5_forged 27 = .ok (.if_icmp .ge 46, 3) := by decide +kernel
theorem dX5_forged_30 : decode cX5_forged 30 = .ok (.aload_n 0, 1) := by decide +kernel
theorem dX5_forged_31 : decode cX5_forged 31 = .ok (.getfield 50, 3) := by decide +kernel
theorem dX5_forged_34 : decode cX5_forged 34 = .ok (.aload_n 0, 1) := by decide +kernel
theorem dX5_forged_35 : decode cX5_forged 35 = .ok (.getfield 12, 3) := by decide +kernel
theorem dX5_forged_38 : decode cX5_forged 38 = .ok (.aload_n 0, 1) := by decide +kernel
theorem dX5_forged_39 : decode cX5_forged 39 = .ok (.getfield 106, 3) := by decide +kernel
theorem dX5_forged_42 : decode cX5_forged 42 = .ok (.aload_n 0, 1) := by decide +kernel
theorem dX5_forged_43 : decode cX5_forged 43 = .ok (.getfield 28, 3) := by decide +kernel
theorem dX5_forged_46 : decode cX5_forged 46 = .ok (.iload_n 2, 1) := by decide +kernel
theorem dX5_forged_47 : decode cX5_forged 47 = .ok (.invokevirtual 238, 3) := by decide +kernel
theorem dX5_forged_50 : decode cX5_forged 50 = .ok (.aload_n 0, 1) := by decide +kernel
theorem dX5_forged_51 : decode cX5_forged 51 = .ok (.aload_n 0, 1) := by decide +kernel
theorem dX5_forged_52 : decode cX5_forged 52 = .ok (.getfield 50, 3) := by decide +kernel
theorem dX5_forged_55 : decode cX5_forged 55 = .ok (.invokevirtual 242, 3) := by decide +kernel
theorem dX5_forged_58 : decode cX5_forged 58 = .ok (.ifCond .eq 9, 3) := by decide +kernel
theorem dX5_forged_61 : decode cX5_forged 61 = .ok (.iload_n 1, 1) := by decide +kernel
theorem dX5_forged_62 : decode cX5_forged 62 = .ok (.iconst 1, 1) := by decide +kernel
theorem dX5_forged_63 : decode cX5_forged 63 = .ok (.iload_n 2, 1) := by decide +kernel
theorem dX5_forged_64 : decode cX5_forged 64 = .ok (.ishl, 1) := by decide +kernel
theorem dX5_forged_65 : decode cX5_forged 65 = .ok (.ior, 1) := by decide +kernel
theorem dX5_forged_66 : decode cX5_forged 66 = .ok (.istore_n 1, 1) := by decide +kernel
theorem dX5_forged_67 : decode cX5_forged 67 = .ok (.iinc 2 1, 3) := by decide +kernel
theorem dX5_forged_70 : decode cX5_forged 70 = .ok (.goto (-51), 3) := by decide +kernel
theorem dX5_forged_73 : decode cX5_forged 73 = .ok (.iload_n 1, 1) := by decide +kernel
theorem dX5_forged_74 : decode cX5_forged 74 = .ok (.ireturn, 1) := by decide +kernel
theorem dX5_chance_0 : decode cX5_chance 0 = .ok (.iload_n 1, 1) := by decide +kernel
theorem dX5_chance_1 : decode cX5_chance 1 = .ok (.iconst 0, 1) := by decide +kernel
theorem dX5_chance_2 : decode cX5_chance 2 = .ok (.bipush 16, 2) := by decide +kernel
theorem dX5_chance_4 : decode cX5_chance 4 = .ok (.invokestatic 71, 3) := by decide +kernel
theorem dX5_chance_7 : decode cX5_chance 7 = .ok (.ifCond .eq 54, 3) := by decide +kernel
theorem dX5_chance_10 : decode cX5_chance 10 = .ok (.iload_n 2, 1) := by decide +kernel
theorem dX5_chance_11 : decode cX5_chance 11 = .ok (.invokestatic 119, 3) := by decide +kernel
theorem dX5_chance_14 : decode cX5_chance 14 = .ok (.ifCond .eq 47, 3) := by decide +kernel
theorem dX5_chance_17 : decode cX5_chance 17 = .ok (.aload_n 0, 1) := by decide +kernel
theorem dX5_chance_18 : decode cX5_chance 18 = .ok (.getfield 12, 3) := by decide +kernel
theorem dX5_chance_21 : decode cX5_chance 21 = .ok (.iload_n 3, 1) := by decide +kernel
theorem dX5_chance_22 : decode cX5_chance 22 = .ok (.invokevirtual 92, 3) := by decide +kernel
theorem dX5_chance_25 : decode cX5_chance 25 = .ok (.ifCond .eq 36, 3) := by decide +kernel
theorem dX5_chance_28 : decode cX5_chance 28 = .ok (.iload 4, 2) := by decide +kernel
theorem dX5_chance_30 : decode cX5_chance 30 = .ok (.iconst 1, 1) := by decide +kernel
theorem dX5_chance_31 : decode cX5_chance 31 = .ok (.bipush 6, 2) := by decide +kernel
theorem dX5_chance_33 : decode cX5_chance 33 = .ok (.invokestatic 71, 3) := by decide +kernel
theorem dX5_chance_36 : decode cX5_chance 36 = .ok (.ifCond .eq 25, 3) := by decide +kernel
theorem dX5_chance_39 : decode cX5_chance 39 = .ok (.iload_n 2, 1) := by decide +kernel
theorem dX5_chance_40 : decode cX5_chance 40 = .ok (.iload 4, 2) := by decide +kernel
theorem dX5_chance_42 : decode cX5_chance 42 = .ok (.iadd, 1) := by decide +kernel
theorem dX5_chance_43 : decode cX5_chance 43 = .ok (.iconst 1, 1) := by decide +kernel
theorem dX5_chance_44 : decode cX5_chance 44 = .ok (.isub, 1) := by decide +kernel
theorem dX5_chance_45 : decode cX5_chance 45 = .ok (.invokestatic 119, 3) := by decide +kernel
theorem dX5_chance_48 : decode cX5_chance 48 = .ok (.ifCond .eq 13, 3) := by decide +kernel
theorem dX5_chance_51 : decode cX5_chance 51 = .ok (.iload 5, 2) := by decide +kernel
theorem dX5_chance_53 : decode cX5_chance 53 = .ok (.iconst 0, 1) := by decide +kernel
theorem dX5_chance_54 : decode cX5_chance 54 = .ok (.iconst 1, 1) := by decide +kernel
theorem dX5_chance_55 : decode cX5_chance 55 = .ok (.invokestatic 71, 3) := by decide +kernel
theorem dX5_chance_58 : decode cX5_chance 58 = .ok (.ifCond .ne 7, 3) := by decide +kernel
theorem dX5_chance_61 : decode cX5_chance 61 = .ok (.ldc2_w 246, 3) := by decide +kernel
theorem dX5_chance_64 : decode cX5_chance 64 = .ok (.lreturn, 1) := by decide +kernel
theorem dX5_chance_65 : decode cX5_chance 65 = .ok (.aload_n 0, 1) := by decide +kernel
theorem dX5_chance_66 : decode cX5_chance 66 = .ok (.invokevirtual 153, 3) := by decide +kernel
theorem dX5_chance_69 : decode cX5_chance 69 = .ok (.astore 6, 2) := by decide +kernel
theorem dX5_chance_71 : decode cX5_chance 71 = .ok (.lconst 1, 1) := by decide +kernel
theorem dX5_chance_72 : decode cX5_chance 72 = .ok (.lstore 7, 2) := by decide +kernel
theorem dX5_chance_74 : decode cX5_chance 74 = .ok (.lconst 1, 1) := by decide +kernel
theorem dX5_chance_75 : decode cX5_chance 75 = .ok (.lstore 9, 2) := by decide +kernel
theorem dX5_chance_77 : decode cX5_chance 77 = .ok (.iload_n 2, 1) := by decide +kernel
theorem dX5_chance_78 : decode cX5_chance 78 = .ok (.istore 11, 2) := by decide +kernel
theorem dX5_chance_80 : decode cX5_chance 80 = .ok (.iload 11, 2) := by decide +kernel
theorem dX5_chance_82 : decode cX5_chance 82 = .ok (.iload_n 2, 1) := by decide +kernel
theorem dX5_chance_83 : decode cX5_chance 83 = .ok (.iload 4, 2) := by decide +kernel
theorem dX5_chance_85 : decode cX5_chance 85 = .ok (.iadd, 1) := by decide +kernel
theorem dX5_chance_86 : decode cX5_chance 86 = .ok (.if_icmp .ge 32, 3) := by decide +kernel
theorem dX5_chance_89 : decode cX5_chance 89 = .ok (.lload 7, 2) := by decide +kernel
theorem dX5_chance_91 : decode cX5_chance 91 = .ok (.aload 6, 2) := by decide +kernel
theorem dX5_chance_93 : decode cX5_chance 93 = .ok (.iload 11, 2) := by decide +kernel
theorem dX5_chance_95 : decode cX5_chance 95 = .ok (.iload_n 3, 1) := by decide +kernel
theorem dX5_chance_96 : decode cX5_chance 96 = .ok (.iload_n 1, 1) := by decide +kernel
theorem dX5_chance_97 : decode cX5_chance 97 = .ok (.invokevirtual 248, 3) := by decide +kernel
theorem dX5_chance_100 : decode cX5_chance 100 = .ok (.i2l, 1) := by decide +kernel
theorem dX5_chance_101 : decode cX5_chance 101 = .ok (.lmul, 1) := by decide +kernel
theorem dX5_chance_102 : decode cX5_chance 102 = .ok (.lstore 7, 2) := by decide +kernel
theorem dX5_chance_104 : decode cX5_chance 104 = .ok (.lload 9, 2) := by decide +kernel
theorem dX5_chance_106 : decode cX5_chance 106 = .ok (.ldc2_w 251, 3) := by decide +kernel
theorem dX5_chance_109 : decode cX5_chance 109 = .ok (.lmul, 1) := by decide +kernel
theorem dX5_chance_110 : decode cX5_chance 110 = .ok (.lstore 9, 2) := by decide +kernel
theorem dX5_chance_112 : decode cX5_chance 112 = .ok (.iinc 11 1, 3) := by decide +kernel
theorem dX5_chance_115 : decode cX5_chance 115 = .ok (.goto (-35), 3) := by decide +kernel
theorem dX5_chance_118 : decode cX5_chance 118 = .ok (.lload 7, 2) := by decide +kernel
theorem dX5_chance_120 : decode cX5_chance 120 = .ok (.lload 9, 2) := by decide +kernel
theorem dX5_chance_122 : decode cX5_chance 122 = .ok (.iload 5, 2) := by decide +kernel
theorem dX5_chance_124 : decode cX5_chance 124 = .ok (.invokestatic 253, 3) := by decide +kernel
theorem dX5_chance_127 : decode cX5_chance 127 = .ok (.lreturn, 1) := by decide +kernel
theorem dX5_year_0 : decode cX5_year 0 = .ok (.iload_n 2, 1) := by decide +kernel
theorem dX5_year_1 : decode cX5_year 1 = .ok (.iconst 1, 1) := by decide +kernel
theorem dX5_year_2 : decode cX5_year 2 = .ok (.bipush 40, 2) := by decide +kernel
theorem dX5_year_4 : decode cX5_year 4 = .ok (.invokestatic 71, 3) := by decide +kernel
theorem dX5_year_7 : decode cX5_year 7 = .ok (.ifCond .eq 12, 3) := by decide +kernel
theorem dX5_year_10 : decode cX5_year 10 = .ok (.iload_n 3, 1) := by decide +kernel
theorem dX5_year_11 : decode cX5_year 11 = .ok (.iconst 0, 1) := by decide +kernel
theorem dX5_year_12 : decode cX5_year 12 = .ok (.iconst 1, 1) := by decide +kernel
theorem dX5_year_13 : decode cX5_year 13 = .ok (.invokestatic 71, 3) := by decide +kernel
theorem dX5_year_16 : decode cX5_year 16 = .ok (.ifCond .ne 6, 3) := by decide +kernel
theorem dX5_year_19 : decode cX5_year 19 = .ok (.bipush (-2), 2) := by decide +kernel
theorem dX5_year_21 : decode cX5_year 21 = .ok (.ireturn, 1) := by decide +kernel
theorem dX5_year_22 : decode cX5_year 22 = .ok (.aload_n 0, 1) := by decide +kernel
theorem dX5_year_23 : decode cX5_year 23 = .ok (.invokevirtual 153, 3) := by decide +kernel
theorem dX5_year_26 : decode cX5_year 26 = .ok (.astore 4, 2) := by decide +kernel
theorem dX5_year_28 : decode cX5_year 28 = .ok (.aload_n 0, 1) := by decide +kernel
theorem dX5_year_29 : decode cX5_year 29 = .ok (.getfield 12, 3) := by decide +kernel
theorem dX5_year_32 : decode cX5_year 32 = .ok (.invokevirtual 226, 3) := by decide +kernel
theorem dX5_year_35 : decode cX5_year 35 = .ok (.istore 5, 2) := by decide +kernel
theorem dX5_year_37 : decode cX5_year 37 = .ok (.iload_n 1, 1) := by decide +kernel
theorem dX5_year_38 : decode cX5_year 38 = .ok (.istore 6, 2) := by decide +kernel
theorem dX5_year_40 : decode cX5_year 40 = .ok (.iconst 0, 1) := by decide +kernel
theorem dX5_year_41 : decode cX5_year 41 = .ok (.istore 7, 2) := by decide +kernel
theorem dX5_year_43 : decode cX5_year 43 = .ok (.iconst 0, 1) := by decide +kernel
theorem dX5_year_44 : decode cX5_year 44 = .ok (.istore 8, 2) := by decide +kernel
theorem dX5_year_46 : decode cX5_year 46 = .ok (.iload 8, 2) := by decide +kernel
theorem dX5_year_48 : decode cX5_year 48 = .ok (.iload_n 2, 1) := by decide +kernel
theorem dX5_year_49 : decode cX5_year 49 = .ok (.if_icmp .ge 73, 3) := by decide +kernel
theorem dX5_year_52 : decode cX5_year 52 = .ok (.iload 5, 2) := by decide +kernel
theorem dX5_year_54 : decode cX5_year 54 = .ok (.ifCond .le 68, 3) := by decide +kernel
theorem dX5_year_57 : decode cX5_year 57 = .ok (.ldc_w 257, 3) := by decide +kernel
theorem dX5_year_60 : decode cX5_year 60 = .ok (.iload 6, 2) := by decide +kernel
theorem dX5_year_62 : decode cX5_year 62 = .ok (.imul, 1) := by decide +kernel
theorem dX5_year_63 : decode cX5_year 63 = .ok (.sipush 12345, 3) := by decide +kernel
theorem dX5_year_66 : decode cX5_year 66 = .ok (.iadd, 1) := by decide +kernel
theorem dX5_year_67 : decode cX5_year 67 = .ok (.istore 6, 2) := by decide +kernel
theorem dX5_year_69 : decode cX5_year 69 = .ok (.iload 6, 2) := by decide +kernel
theorem dX5_year_71 : decode cX5_year 71 = .ok (.bipush 16, 2) := by decide +kernel
theorem dX5_year_73 : decode cX5_year 73 = .ok (.iushr, 1) := by decide +kernel
theorem dX5_year_74 : decode cX5_year 74 = .ok (.iload 5, 2) := by decide +kernel
theorem dX5_year_76 : decode cX5_year 76 = .ok (.irem, 1) := by decide +kernel
theorem dX5_year_77 : decode cX5_year 77 = .ok (.istore 9, 2) := by decide +kernel
theorem dX5_year_79 : decode cX5_year 79 = .ok (.aload 4, 2) := by decide +kernel
theorem dX5_year_81 : decode cX5_year 81 = .ok (.iload 8, 2) := by decide +kernel
theorem dX5_year_83 : decode cX5_year 83 = .ok (.invokevirtual 163, 3) := by decide +kernel
theorem dX5_year_86 : decode cX5_year 86 = .ok (.iload 9, 2) := by decide +kernel
theorem dX5_year_88 : decode cX5_year 88 = .ok (.invokestatic 102, 3) := by decide +kernel
theorem dX5_year_91 : decode cX5_year 91 = .ok (.ifCond .ne 25, 3) := by decide +kernel
theorem dX5_year_94 : decode cX5_year 94 = .ok (.iload 7, 2) := by decide +kernel
theorem dX5_year_96 : decode cX5_year 96 = .ok (.iload_n 3, 1) := by decide +kernel
theorem dX5_year_97 : decode cX5_year 97 = .ok (.ifCond .ne 7, 3) := by decide +kernel
theorem dX5_year_100 : decode cX5_year 100 = .ok (.iconst 1, 1) := by decide +kernel
theorem dX5_year_101 : decode cX5_year 101 = .ok (.goto 12, 3) := by decide +kernel
theorem dX5_year_104 : decode cX5_year 104 = .ok (.aload_n 0, 1) := by decide +kernel
theorem dX5_year_105 : decode cX5_year 105 = .ok (.getfield 12, 3) := by decide +kernel
theorem dX5_year_108 : decode cX5_year 108 = .ok (.iload 9, 2) := by decide +kernel
theorem dX5_year_110 : decode cX5_year 110 = .ok (.invokevirtual 96, 3) := by decide +kernel
theorem dX5_year_113 : decode cX5_year 113 = .ok (.iadd, 1) := by decide +kernel
theorem dX5_year_114 : decode cX5_year 114 = .ok (.istore 7, 2) := by decide +kernel
theorem dX5_year_116 : decode cX5_year 116 = .ok (.iinc 8 1, 3) := by decide +kernel
theorem dX5_year_119 : decode cX5_year 119 = .ok (.goto (-73), 3) := by decide +kernel
theorem dX5_year_122 : decode cX5_year 122 = .ok (.iload 7, 2) := by decide +kernel
theorem dX5_year_124 : decode cX5_year 124 = .ok (.ireturn, 1) := by decide +kernel
theorem dX5_sheet_0 : decode cX5_sheet 0 = .ok (.iload_n 1, 1) := by decide +kernel
theorem dX5_sheet_1 : decode cX5_sheet 1 = .ok (.invokestatic 134, 3) := by decide +kernel
theorem dX5_sheet_4 : decode cX5_sheet 4 = .ok (.ifCond .eq 16, 3) := by decide +kernel
theorem dX5_sheet_7 : decode cX5_sheet 7 = .ok (.iload_n 2, 1) := by decide +kernel
theorem dX5_sheet_8 : decode cX5_sheet 8 = .ok (.invokestatic 258, 3) := by decide +kernel
theorem dX5_sheet_11 : decode cX5_sheet 11 = .ok (.ifCond .eq 9, 3) := by decide +kernel
theorem dX5_sheet_14 : decode cX5_sheet 14 = .ok (.iload_n 3, 1) := by decide +kernel
theorem dX5_sheet_15 : decode cX5_sheet 15 = .ok (.bipush 60, 2) := by decide +kernel
theorem dX5_sheet_17 : decode cX5_sheet 17 = .ok (.if_icmp .le 6, 3) := by decide +kernel
theorem dX5_sheet_20 : decode cX5_sheet 20 = .ok (.bipush (-2), 2) := by decide +kernel
theorem dX5_sheet_22 : decode cX5_sheet 22 = .ok (.ireturn, 1) := by decide +kernel
theorem dX5_sheet_23 : decode cX5_sheet 23 = .ok (.iload_n 3, 1) := by decide +kernel
theorem dX5_sheet_24 : decode cX5_sheet 24 = .ok (.ifCond .ge 9, 3) := by decide +kernel
theorem dX5_sheet_27 : decode cX5_sheet 27 = .ok (.aload_n 0, 1) := by decide +kernel
theorem dX5_sheet_28 : decode cX5_sheet 28 = .ok (.iconst 5, 1) := by decide +kernel
theorem dX5_sheet_29 : decode cX5_sheet 29 = .ok (.invokevirtual 141, 3) := by decide +kernel
theorem dX5_sheet_32 : decode cX5_sheet 32 = .ok (.ireturn, 1) := by decide +kernel
theorem dX5_sheet_33 : decode cX5_sheet 33 = .ok (.aload_n 0, 1) := by decide +kernel
theorem dX5_sheet_34 : decode cX5_sheet 34 = .ok (.getfield 62, 3) := by decide +kernel
theorem dX5_sheet_37 : decode cX5_sheet 37 = .ok (.iload_n 1, 1) := by decide +kernel
theorem dX5_sheet_38 : decode cX5_sheet 38 = .ok (.aaload, 1) := by decide +kernel
theorem dX5_sheet_39 : decode cX5_sheet 39 = .ok (.iload_n 2, 1) := by decide +kernel
theorem dX5_sheet_40 : decode cX5_sheet 40 = .ok (.iload_n 3, 1) := by decide +kernel
theorem dX5_sheet_41 : decode cX5_sheet 41 = .ok (.invokevirtual 261, 3) := by decide +kernel
theorem dX5_sheet_44 : decode cX5_sheet 44 = .ok (.iload_n 3, 1) := by decide +kernel
theorem dX5_sheet_45 : decode cX5_sheet 45 = .ok (.ireturn, 1) := by decide +kernel
theorem dX5_lose_0 : decode cX5_lose 0 = .ok (.iload_n 1, 1) := by decide +kernel
theorem dX5_lose_1 : decode cX5_lose 1 = .ok (.invokestatic 134, 3) := by decide +kernel
theorem dX5_lose_4 : decode cX5_lose 4 = .ok (.ifCond .ne 6, 3) := by decide +kernel
theorem dX5_lose_7 : decode cX5_lose 7 = .ok (.bipush (-2), 2) := by decide +kernel
theorem dX5_lose_9 : decode cX5_lose 9 = .ok (.ireturn, 1) := by decide +kernel
theorem dX5_lose_10 : decode cX5_lose 10 = .ok (.aload_n 0, 1) := by decide +kernel
theorem dX5_lose_11 : decode cX5_lose 11 = .ok (.getfield 62, 3) := by decide +kernel
theorem dX5_lose_14 : decode cX5_lose 14 = .ok (.iload_n 1, 1) := by decide +kernel
theorem dX5_lose_15 : decode cX5_lose 15 = .ok (.aaload, 1) := by decide +kernel
theorem dX5_lose_16 : decode cX5_lose 16 = .ok (.invokevirtual 137, 3) := by decide +kernel
theorem dX5_lose_19 : decode cX5_lose 19 = .ok (.ifCond .eq 9, 3) := by decide +kernel
theorem dX5_lose_22 : decode cX5_lose 22 = .ok (.aload_n 0, 1) := by decide +kernel
theorem dX5_lose_23 : decode cX5_lose 23 = .ok (.iconst 1, 1) := by decide +kernel
theorem dX5_lose_24 : decode cX5_lose 24 = .ok (.invokevirtual 141, 3) := by decide +kernel
theorem dX5_lose_27 : decode cX5_lose 27 = .ok (.ireturn, 1) := by decide +kernel
theorem dX5_lose_28 : decode cX5_lose 28 = .ok (.aload_n 0, 1) := by decide +kernel
theorem dX5_lose_29 : decode cX5_lose 29 = .ok (.getfield 62, 3) := by decide +kernel
theorem dX5_lose_32 : decode cX5_lose 32 = .ok (.iload_n 1, 1) := by decide +kernel
theorem dX5_lose_33 : decode cX5_lose 33 = .ok (.aaload, 1) := by decide +kernel
theorem dX5_lose_34 : decode cX5_lose 34 = .ok (.invokevirtual 265, 3) := by decide +kernel
theorem dX5_lose_37 : decode cX5_lose 37 = .ok (.ireturn, 1) := by decide +kernel
theorem dX5_put_0 : decode cX5_put 0 = .ok (.iload_n 1, 1) := by decide +kernel
theorem dX5_put_1 : decode cX5_put 1 = .ok (.invokestatic 134, 3) := by decide +kernel
theorem dX5_put_4 : decode cX5_put 4 = .ok (.ifCond .eq 10, 3) := by decide +kernel
theorem dX5_put_7 : decode cX5_put 7 = .ok (.iload_n 2, 1) := by decide +kernel
theorem dX5_put_8 : decode cX5_put 8 = .ok (.invokestatic 258, 3) := by decide +kernel
theorem dX5_put_11 : decode cX5_put 11 = .ok (.ifCond .ne 6, 3) := by decide +kernel
theorem dX5_put_14 : decode cX5_put 14 = .ok (.bipush (-2), 2) := by decide +kernel
theorem dX5_put_16 : decode cX5_put 16 = .ok (.ireturn, 1) := by decide +kernel
theorem dX5_put_17 : decode cX5_put 17 = .ok (.aload_n 0, 1) := by decide +kernel
theorem dX5_put_18 : decode cX5_put 18 = .ok (.getfield 62, 3) := by decide +kernel
theorem dX5_put_21 : decode cX5_put 21 = .ok (.iload_n 1, 1) := by decide +kernel
theorem dX5_put_22 : decode cX5_put 22 = .ok (.aaload, 1) := by decide +kernel
theorem dX5_put_23 : decode cX5_put 23 = .ok (.iload_n 2, 1) := by decide +kernel
theorem dX5_put_24 : decode cX5_put 24 = .ok (.iload_n 3, 1) := by decide +kernel
theorem dX5_put_25 : decode cX5_put 25 = .ok (.invokestatic 268, 3) := by decide +kernel
theorem dX5_put_28 : decode cX5_put 28 = .ok (.istore 5, 2) := by decide +kernel
theorem dX5_put_30 : decode cX5_put 30 = .ok (.iload 5, 2) := by decide +kernel
theorem dX5_put_32 : decode cX5_put 32 = .ok (.ifCond .eq 10, 3) := by decide +kernel
theorem dX5_put_35 : decode cX5_put 35 = .ok (.aload_n 0, 1) := by decide +kernel
theorem dX5_put_36 : decode cX5_put 36 = .ok (.iload 5, 2) := by decide +kernel
theorem dX5_put_38 : decode cX5_put 38 = .ok (.invokevirtual 141, 3) := by decide +kernel
theorem dX5_put_41 : decode cX5_put 41 = .ok (.ireturn, 1) := by decide +kernel
theorem dX5_put_42 : decode cX5_put 42 = .ok (.aload_n 0, 1) := by decide +kernel
theorem dX5_put_43 : decode cX5_put 43 = .ok (.getfield 62, 3) := by decide +kernel
theorem dX5_put_46 : decode cX5_put 46 = .ok (.iload_n 1, 1) := by decide +kernel
theorem dX5_put_47 : decode cX5_put 47 = .ok (.aaload, 1) := by decide +kernel
theorem dX5_put_48 : decode cX5_put 48 = .ok (.iload_n 3, 1) := by decide +kernel
theorem dX5_put_49 : decode cX5_put 49 = .ok (.iload 4, 2) := by decide +kernel
theorem dX5_put_51 : decode cX5_put 51 = .ok (.invokevirtual 272, 3) := by decide +kernel
theorem dX5_put_54 : decode cX5_put 54 = .ok (.iconst 1, 1) := by decide +kernel
theorem dX5_put_55 : decode cX5_put 55 = .ok (.ireturn, 1) := by decide +kernel
theorem dX5_get_0 : decode cX5_get 0 = .ok (.iload_n 1, 1) := by decide +kernel
theorem dX5_get_1 : decode cX5_get 1 = .ok (.invokestatic 134, 3) := by decide +kernel
theorem dX5_get_4 : decode cX5_get 4 = .ok (.ifCond .eq 10, 3) := by decide +kernel
theorem dX5_get_7 : decode cX5_get 7 = .ok (.iload_n 2, 1) := by decide +kernel
theorem dX5_get_8 : decode cX5_get 8 = .ok (.invokestatic 258, 3) := by decide +kernel
theorem dX5_get_11 : decode cX5_get 11 = .ok (.ifCond .ne 7, 3) := by decide +kernel
theorem dX5_get_14 : decode cX5_get 14 = .ok (.ldc_w 277, 3) := by decide +kernel
theorem dX5_get_17 : decode cX5_get 17 = .ok (.ireturn, 1) := by decide +kernel
theorem dX5_get_18 : decode cX5_get 18 = .ok (.aload_n 0, 1) := by decide +kernel
theorem dX5_get_19 : decode cX5_get 19 = .ok (.getfield 62, 3) := by decide +kernel
theorem dX5_get_22 : decode cX5_get 22 = .ok (.iload_n 1, 1) := by decide +kernel
theorem dX5_get_23 : decode cX5_get 23 = .ok (.aaload, 1) := by decide +kernel
theorem dX5_get_24 : decode cX5_get 24 = .ok (.iload_n 2, 1) := by decide +kernel
theorem dX5_get_25 : decode cX5_get 25 = .ok (.iload_n 3, 1) := by decide +kernel
theorem dX5_get_26 : decode cX5_get 26 = .ok (.invokestatic 268, 3) := by decide +kernel
theorem dX5_get_29 : decode cX5_get 29 = .ok (.istore 4, 2) := by decide +kernel
theorem dX5_get_31 : decode cX5_get 31 = .ok (.iload 4, 2) := by decide +kernel
theorem dX5_get_33 : decode cX5_get 33 = .ok (.ifCond .eq 14, 3) := by decide +kernel
theorem dX5_get_36 : decode cX5_get 36 = .ok (.aload_n 0, 1) := by decide +kernel
theorem dX5_get_37 : decode cX5_get 37 = .ok (.iload 4, 2) := by decide +kernel
theorem dX5_get_39 : decode cX5_get 39 = .ok (.invokevirtual 141, 3) := by decide +kernel
theorem dX5_get_42 : decode cX5_get 42 = .ok (.pop, 1) := by decide +kernel
theorem dX5_get_43 : decode cX5_get 43 = .ok (.ldc_w 277, 3) := by decide +kernel
theorem dX5_get_46 : decode cX5_get 46 = .ok (.ireturn, 1) := by decide +kernel
theorem dX5_get_47 : decode cX5_get 47 = .ok (.aload_n 0, 1) := by decide +kernel
theorem dX5_get_48 : decode cX5_get 48 = .ok (.getfield 62, 3) := by decide +kernel
theorem dX5_get_51 : decode cX5_get 51 = .ok (.iload_n 1, 1) := by decide +kernel
theorem dX5_get_52 : decode cX5_get 52 = .ok (.aaload, 1) := by decide +kernel
theorem dX5_get_53 : decode cX5_get 53 = .ok (.iload_n 3, 1) := by decide +kernel
theorem dX5_get_54 : decode cX5_get 54 = .ok (.invokevirtual 147, 3) := by decide +kernel
theorem dX5_get_57 : decode cX5_get 57 = .ok (.ireturn, 1) := by decide +kernel
theorem dX5_copy_0 : decode cX5_copy 0 = .ok (.iload_n 1, 1) := by decide +kernel
theorem dX5_copy_1 : decode cX5_copy 1 = .ok (.invokestatic 134, 3) := by decide +kernel
theorem dX5_copy_4 : decode cX5_copy 4 = .ok (.ifCond .eq 10, 3) := by decide +kernel
theorem dX5_copy_7 : decode cX5_copy 7 = .ok (.iload_n 3, 1) := by decide +kernel
theorem dX5_copy_8 : decode cX5_copy 8 = .ok (.invokestatic 134, 3) := by decide +kernel
theorem dX5_copy_11 : decode cX5_copy 11 = .ok (.ifCond .ne 6, 3) := by decide +kernel
theorem dX5_copy_14 : decode cX5_copy 14 = .ok (.bipush (-2), 2) := by decide +kernel
theorem dX5_copy_16 : decode cX5_copy 16 = .ok (.ireturn, 1) := by decide +kernel
theorem dX5_copy_17 : decode cX5_copy 17 = .ok (.aload_n 0, 1) := by decide +kernel
theorem dX5_copy_18 : decode cX5_copy 18 = .ok (.getfield 62, 3) := by decide +kernel
theorem dX5_copy_21 : decode cX5_copy 21 = .ok (.iload_n 1, 1) := by decide +kernel
theorem dX5_copy_22 : decode cX5_copy 22 = .ok (.aaload, 1) := by decide +kernel
theorem dX5_copy_23 : decode cX5_copy 23 = .ok (.astore 6, 2) := by decide +kernel
theorem dX5_copy_25 : decode cX5_copy 25 = .ok (.aload_n 0, 1) := by decide +kernel
theorem dX5_copy_26 : decode cX5_copy 26 = .ok (.getfield 62, 3) := by decide +kernel
theorem dX5_copy_29 : decode cX5_copy 29 = .ok (.iload_n 3, 1) := by decide +kernel
theorem dX5_copy_30 : decode cX5_copy 30 = .ok (.aaload, 1) := by decide +kernel
theorem dX5_copy_31 : decode cX5_copy 31 = .ok (.astore 7, 2) := by decide +kernel
theorem dX5_copy_33 : decode cX5_copy 33 = .ok (.aload 6, 2) := by decide +kernel
theorem dX5_copy_35 : decode cX5_copy 35 = .ok (.invokevirtual 137, 3) := by decide +kernel
theorem dX5_copy_38 : decode cX5_copy 38 = .ok (.ifCond .ne 11, 3) := by decide +kernel
theorem dX5_copy_41 : decode cX5_copy 41 = .ok (.aload 7, 2) := by decide +kernel
theorem dX5_copy_43 : decode cX5_copy 43 = .ok (.invokevirtual 137, 3) := by decide +kernel
theorem dX5_copy_46 : decode cX5_copy 46 = .ok (.ifCond .eq 9, 3) := by decide +kernel
theorem dX5_copy_49 : decode cX5_copy 49 = .ok (.aload_n 0, 1) := by decide +kernel
theorem dX5_copy_50 : decode cX5_copy 50 = .ok (.iconst 1, 1) := by decide +kernel
theorem dX5_copy_51 : decode cX5_copy 51 = .ok (.invokevirtual 141, 3) := by decide +kernel
theorem dX5_copy_54 : decode cX5_copy 54 = .ok (.ireturn, 1) := by decide +kernel
theorem dX5_copy_55 : decode cX5_copy 55 = .ok (.aload 6, 2) := by decide +kernel
theorem dX5_copy_57 : decode cX5_copy 57 = .ok (.invokevirtual 278, 3) := by decide +kernel
theorem dX5_copy_60 : decode cX5_copy 60 = .ok (.aload 7, 2) := by decide +kernel
theorem dX5_copy_62 : decode cX5_copy 62 = .ok (.invokevirtual 278, 3) := by decide +kernel
theorem dX5_copy_65 : decode cX5_copy 65 = .ok (.if_icmp .eq 9, 3) := by decide +kernel
theorem dX5_copy_68 : decode cX5_copy 68 = .ok (.aload_n 0, 1) := by decide +kernel
theorem dX5_copy_69 : decode cX5_copy 69 = .ok (.iconst 4, 1) := by decide +kernel
theorem dX5_copy_70 : decode cX5_copy 70 = .ok (.invokevirtual 141, 3) := by decide +kernel
theorem dX5_copy_73 : decode cX5_copy 73 = .ok (.ireturn, 1) := by decide +kernel
theorem dX5_copy_74 : decode cX5_copy 74 = .ok (.aload 6, 2) := by decide +kernel
theorem dX5_copy_76 : decode cX5_copy 76 = .ok (.iload_n 2, 1) := by decide +kernel
theorem dX5_copy_77 : decode cX5_copy 77 = .ok (.iload 5, 2) := by decide +kernel
theorem dX5_copy_79 : decode cX5_copy 79 = .ok (.invokevirtual 281, 3) := by decide +kernel
theorem dX5_copy_82 : decode cX5_copy 82 = .ok (.ifCond .eq 15, 3) := by decide +kernel
theorem dX5_copy_85 : decode cX5_copy 85 = .ok (.aload 7, 2) := by decide +kernel
theorem dX5_copy_87 : decode cX5_copy 87 = .ok (.iload 4, 2) := by decide +kernel
theorem dX5_copy_89 : decode cX5_copy 89 = .ok (.iload 5, 2) := by decide +kernel
theorem dX5_copy_91 : decode cX5_copy 91 = .ok (.invokevirtual 281, 3) := by decide +kernel
theorem dX5_copy_94 : decode cX5_copy 94 = .ok (.ifCond .ne 9, 3) := by decide +kernel
theorem dX5_copy_97 : decode cX5_copy 97 = .ok (.aload_n 0, 1) := by decide +kernel
theorem dX5_copy_98 : decode cX5_copy 98 = .ok (.iconst 2, 1) := by decide +kernel
theorem dX5_copy_99 : decode cX5_copy 99 = .ok (.invokevirtual 141, 3) := by decide +kernel
theorem dX5_copy_102 : decode cX5_copy 102 = .ok (.ireturn, 1) := by decide +kernel
theorem dX5_copy_103 : decode cX5_copy 103 = .ok (.aload 7, 2) := by decide +kernel
theorem dX5_copy_105 : decode cX5_copy 105 = .ok (.iload 4, 2) := by decide +kernel
theorem dX5_copy_107 : decode cX5_copy 107 = .ok (.aload 6, 2) := by decide +kernel
theorem dX5_copy_109 : decode cX5_copy 109 = .ok (.iload_n 2, 1) := by decide +kernel
theorem dX5_copy_110 : decode cX5_copy 110 = .ok (.iload 5, 2) := by decide +kernel
theorem dX5_copy_112 : decode cX5_copy 112 = .ok (.invokevirtual 285, 3) := by decide +kernel
theorem dX5_copy_115 : decode cX5_copy 115 = .ok (.iconst 1, 1) := by decide +kernel
theorem dX5_copy_116 : decode cX5_copy 116 = .ok (.ireturn, 1) := by decide +kernel
theorem dX5_write_0 : decode cX5_write 0 = .ok (.iload_n 1, 1) := by decide +kernel
theorem dX5_write_1 : decode cX5_write 1 = .ok (.invokestatic 134, 3) := by decide +kernel
theorem dX5_write_4 : decode cX5_write 4 = .ok (.ifCond .ne 6, 3) := by decide +kernel
theorem dX5_write_7 : decode cX5_write 7 = .ok (.bipush (-2), 2) := by decide +kernel
theorem dX5_write_9 : decode cX5_write 9 = .ok (.ireturn, 1) := by decide +kernel
theorem dX5_write_10 : decode cX5_write 10 = .ok (.aload_n 0, 1) := by decide +kernel
theorem dX5_write_11 : decode cX5_write 11 = .ok (.getfield 62, 3) := by decide +kernel
theorem dX5_write_14 : decode cX5_write 14 = .ok (.iload_n 1, 1) := by decide +kernel
theorem dX5_write_15 : decode cX5_write 15 = .ok (.aaload, 1) := by decide +kernel
theorem dX5_write_16 : decode cX5_write 16 = .ok (.astore_n 2, 1) := by decide +kernel
theorem dX5_write_17 : decode cX5_write 17 = .ok (.aload_n 2, 1) := by decide +kernel
theorem dX5_write_18 : decode cX5_write 18 = .ok (.invokevirtual 137, 3) := by decide +kernel
theorem dX5_write_21 : decode cX5_write 21 = .ok (.ifCond .eq 9, 3) := by decide +kernel
theorem dX5_write_24 : decode cX5_write 24 = .ok (.aload_n 0, 1) := by decide +kernel
theorem dX5_write_25 : decode cX5_write 25 = .ok (.iconst 1, 1) := by decide +kernel
theorem dX5_write_26 : decode cX5_write 26 = .ok (.invokevirtual 141, 3) := by decide +kernel
theorem dX5_write_29 : decode cX5_write 29 = .ok (.ireturn, 1) := by decide +kernel
theorem dX5_write_30 : decode cX5_write 30 = .ok (.aload_n 0, 1) := by decide +kernel
theorem dX5_write_31 : decode cX5_write 31 = .ok (.invokevirtual 153, 3) := by decide +kernel
theorem dX5_write_34 : decode cX5_write 34 = .ok (.astore_n 3, 1) := by decide +kernel
theorem dX5_write_35 : decode cX5_write 35 = .ok (.aload_n 2, 1) := by decide +kernel
theorem dX5_write_36 : decode cX5_write 36 = .ok (.invokevirtual 144, 3) := by decide +kernel
theorem dX5_write_39 : decode cX5_write 39 = .ok (.bipush 40, 2) := by decide +kernel
theorem dX5_write_41 : decode cX5_write 41 = .ok (.invokestatic 289, 3) := by decide +kernel
theorem dX5_write_44 : decode cX5_write 44 = .ok (.istore 4, 2) := by decide +kernel
theorem dX5_write_46 : decode cX5_write 46 = .ok (.iconst 0, 1) := by decide +kernel
theorem dX5_write_47 : decode cX5_write 47 = .ok (.istore 5, 2) := by decide +kernel
theorem dX5_write_49 : decode cX5_write 49 = .ok (.iload 5, 2) := by decide +kernel
theorem dX5_write_51 : decode cX5_write 51 = .ok (.iload 4, 2) := by decide +kernel
theorem dX5_write_53 : decode cX5_write 53 = .ok (.if_icmp .ge 21, 3) := by decide +kernel
theorem dX5_write_56 : decode cX5_write 56 = .ok (.aload_n 2, 1) := by decide +kernel
theorem dX5_write_57 : decode cX5_write 57 = .ok (.iload 5, 2) := by decide +kernel
theorem dX5_write_59 : decode cX5_write 59 = .ok (.aload_n 3, 1) := by decide +kernel
theorem dX5_write_60 : decode cX5_write 60 = .ok (.iload 5, 2) := by decide +kernel
theorem dX5_write_62 : decode cX5_write 62 = .ok (.invokevirtual 163, 3) := by decide +kernel
theorem dX5_write_65 : decode cX5_write 65 = .ok (.invokevirtual 272, 3) := by decide +kernel
theorem dX5_write_68 : decode cX5_write 68 = .ok (.iinc 5 1, 3) := by decide +kernel
theorem dX5_write_71 : decode cX5_write 71 = .ok (.goto (-22), 3) := by decide +kernel
theorem dX5_write_74 : decode cX5_write 74 = .ok (.iload 4, 2) := by decide +kernel
theorem dX5_write_76 : decode cX5_write 76 = .ok (.ireturn, 1) := by decide +kernel
theorem dX5_count_0 : decode cX5_count 0 = .ok (.iload_n 1, 1) := by decide +kernel
theorem dX5_count_1 : decode cX5_count 1 = .ok (.tableswitch 128 0 8 #[51, 59, 67, 75, 83, 91, 99, 107, 123], 51) := by decide +kernel
theorem dX5_count_52 : decode cX5_count 52 = .ok (.aload_n 0, 1) := by decide +kernel
theorem dX5_count_53 : decode cX5_count 53 = .ok (.getfield 12, 3) := by decide +kernel
theorem dX5_count_56 : decode cX5_count 56 = .ok (.invokevirtual 226, 3) := by decide +kernel
theorem dX5_count_59 : decode cX5_count 59 = .ok (.ireturn, 1) := by decide +kernel
theorem dX5_count_60 : decode cX5_count 60 = .ok (.aload_n 0, 1) := by decide +kernel
theorem dX5_count_61 : decode cX5_count 61 = .ok (.getfield 12, 3) := by decide +kernel
theorem dX5_count_64 : decode cX5_count 64 = .ok (.invokevirtual 292, 3) := by decide +kernel
theorem dX5_count_67 : decode cX5_count 67 = .ok (.ireturn, 1) := by decide +kernel
theorem dX5_count_68 : decode cX5_count 68 = .ok (.aload_n 0, 1) := by decide +kernel
theorem dX5_count_69 : decode cX5_count 69 = .ok (.getfield 21, 3) := by decide +kernel
theorem dX5_count_72 : decode cX5_count 72 = .ok (.invokevirtual 173, 3) := by decide +kernel
theorem dX5_count_75 : decode cX5_count 75 = .ok (.ireturn, 1) := by decide +kernel
theorem dX5_count_76 : decode cX5_count 76 = .ok (.aload_n 0, 1) := by decide +kernel
theorem dX5_count_77 : decode cX5_count 77 = .ok (.getfield 25, 3) := by decide +kernel
theorem dX5_count_80 : decode cX5_count 80 = .ok (.invokevirtual 173, 3) := by decide +kernel
theorem dX5_count_83 : decode cX5_count 83 = .ok (.ireturn, 1) := by decide +kernel
theorem dX5_count_84 : decode cX5_count 84 = .ok (.aload_n 0, 1) := by decide +kernel
theorem dX5_count_85 : decode cX5_count 85 = .ok (.getfield 28, 3) := by decide +kernel
theorem dX5_count_88 : decode cX5_count 88 = .ok (.invokevirtual 173, 3) := by decide +kernel
theorem dX5_count_91 : decode cX5_count 91 = .ok (.ireturn, 1) := by decide +kernel
theorem dX5_count_92 : decode cX5_count 92 = .ok (.aload_n 0, 1) := by decide +kernel
theorem dX5_count_93 : decode cX5_count 93 = .ok (.getfield 31, 3) := by decide +kernel
theorem dX5_count_96 : decode cX5_count 96 = .ok (.invokevirtual 173, 3) := by decide +kernel
theorem dX5_count_99 : decode cX5_count 99 = .ok (.ireturn, 1) := by decide +kernel
theorem dX5_count_100 : decode cX5_count 100 = .ok (.aload_n 0, 1) := by decide +kernel
theorem dX5_count_101 : decode cX5_count 101 = .ok (.getfield 34, 3) := by decide +kernel
theorem dX5_count_104 : decode cX5_count 104 = .ok (.invokevirtual 173, 3) := by decide +kernel
theorem dX5_count_107 : decode cX5_count 107 = .ok (.ireturn, 1) := by decide +kernel
theorem dX5_count_108 : decode cX5_count 108 = .ok (.aload_n 0, 1) := by decide +kernel
theorem dX5_count_109 : decode cX5_count 109 = .ok (.getfield 37, 3) := by decide +kernel
theorem dX5_count_112 : decode cX5_count 112 = .ok (.invokevirtual 173, 3) := by decide +kernel
theorem dX5_count_115 : decode cX5_count 115 = .ok (.aload_n 0, 1) := by decide +kernel
theorem dX5_count_116 : decode cX5_count 116 = .ok (.getfield 40, 3) := by decide +kernel
theorem dX5_count_119 : decode cX5_count 119 = .ok (.invokevirtual 173, 3) := by decide +kernel
theorem dX5_count_122 : decode cX5_count 122 = .ok (.iadd, 1) := by decide +kernel
theorem dX5_count_123 : decode cX5_count 123 = .ok (.ireturn, 1) := by decide +kernel
theorem dX5_count_124 : decode cX5_count 124 = .ok (.aload_n 0, 1) := by decide +kernel
theorem dX5_count_125 : decode cX5_count 125 = .ok (.getfield 295, 3) := by decide +kernel
theorem dX5_count_128 : decode cX5_count 128 = .ok (.ireturn, 1) := by decide +kernel
theorem dX5_count_129 : decode cX5_count 129 = .ok (.bipush (-2), 2) := by decide +kernel
theorem dX5_count_131 : decode cX5_count 131 = .ok (.ireturn, 1) := by decide +kernel
theorem dX5_digest_0 : decode cX5_digest 0 = .ok (.ldc2_w 298, 3) := by decide +kernel
theorem dX5_digest_3 : decode cX5_digest 3 = .ok (.lstore_n 1, 1) := by decide +kernel
theorem dX5_digest_4 : decode cX5_digest 4 = .ok (.iconst 0, 1) := by decide +kernel
theorem dX5_digest_5 : decode cX5_digest 5 = .ok (.istore_n 3, 1) := by decide +kernel
theorem dX5_digest_6 : decode cX5_digest 6 = .ok (.iload_n 3, 1) := by decide +kernel
theorem dX5_digest_7 : decode cX5_digest 7 = .ok (.bipush 7, 2) := by decide +kernel
theorem dX5_digest_9 : decode cX5_digest 9 = .ok (.if_icmp .gt 20, 3) := by decide +kernel
theorem dX5_digest_12 : decode cX5_digest 12 = .ok (.lload_n 1, 1) := by decide +kernel
theorem dX5_digest_13 : decode cX5_digest 13 = .ok (.aload_n 0, 1) := by decide +kernel
theorem dX5_digest_14 : decode cX5_digest 14 = .ok (.iload_n 3, 1) := by decide +kernel
theorem dX5_digest_15 : decode cX5_digest 15 = .ok (.invokevirtual 300, 3) := by decide +kernel
theorem dX5_digest_18 : decode cX5_digest 18 = .ok (.i2l, 1) := by decide +kernel
theorem dX5_digest_19 : decode cX5_digest 19 = .ok (.invokestatic 303, 3) := by decide +kernel
theorem dX5_digest_22 : decode cX5_digest 22 = .ok (.lstore_n 1, 1) := by decide +kernel
theorem dX5_digest_23 : decode cX5_digest 23 = .ok (.iinc 3 1, 3) := by decide +kernel
theorem dX5_digest_26 : decode cX5_digest 26 = .ok (.goto (-20), 3) := by decide +kernel
theorem dX5_digest_29 : decode cX5_digest 29 = .ok (.lload_n 1, 1) := by decide +kernel
theorem dX5_digest_30 : decode cX5_digest 30 = .ok (.aload_n 0, 1) := by decide +kernel
theorem dX5_digest_31 : decode cX5_digest 31 = .ok (.invokevirtual 307, 3) := by decide +kernel
theorem dX5_digest_34 : decode cX5_digest 34 = .ok (.i2l, 1) := by decide +kernel
theorem dX5_digest_35 : decode cX5_digest 35 = .ok (.invokestatic 303, 3) := by decide +kernel
theorem dX5_digest_38 : decode cX5_digest 38 = .ok (.lstore_n 1, 1) := by decide +kernel
theorem dX5_digest_39 : decode cX5_digest 39 = .ok (.aload_n 0, 1) := by decide +kernel
theorem dX5_digest_40 : decode cX5_digest 40 = .ok (.lload_n 1, 1) := by decide +kernel
theorem dX5_digest_41 : decode cX5_digest 41 = .ok (.invokevirtual 310, 3) := by decide +kernel
theorem dX5_digest_44 : decode cX5_digest 44 = .ok (.lstore_n 1, 1) := by decide +kernel
theorem dX5_digest_45 : decode cX5_digest 45 = .ok (.aload_n 0, 1) := by decide +kernel
theorem dX5_digest_46 : decode cX5_digest 46 = .ok (.lload_n 1, 1) := by decide +kernel
theorem dX5_digest_47 : decode cX5_digest 47 = .ok (.invokevirtual 314, 3) := by decide +kernel
theorem dX5_digest_50 : decode cX5_digest 50 = .ok (.lstore_n 1, 1) := by decide +kernel
theorem dX5_digest_51 : decode cX5_digest 51 = .ok (.lload_n 1, 1) := by decide +kernel
theorem dX5_digest_52 : decode cX5_digest 52 = .ok (.aload_n 0, 1) := by decide +kernel
theorem dX5_digest_53 : decode cX5_digest 53 = .ok (.invokevirtual 317, 3) := by decide +kernel
theorem dX5_digest_56 : decode cX5_digest 56 = .ok (.i2l, 1) := by decide +kernel
theorem dX5_digest_57 : decode cX5_digest 57 = .ok (.invokestatic 303, 3) := by decide +kernel
theorem dX5_digest_60 : decode cX5_digest 60 = .ok (.aload_n 0, 1) := by decide +kernel
theorem dX5_digest_61 : decode cX5_digest 61 = .ok (.invokevirtual 320, 3) := by decide +kernel
theorem dX5_digest_64 : decode cX5_digest 64 = .ok (.i2l, 1) := by decide +kernel
theorem dX5_digest_65 : decode cX5_digest 65 = .ok (.invokestatic 303, 3) := by decide +kernel
theorem dX5_digest_68 : decode cX5_digest 68 = .ok (.lstore_n 1, 1) := by decide +kernel
theorem dX5_digest_69 : decode cX5_digest 69 = .ok (.aload_n 0, 1) := by decide +kernel
theorem dX5_digest_70 : decode cX5_digest 70 = .ok (.lload_n 1, 1) := by decide +kernel
theorem dX5_digest_71 : decode cX5_digest 71 = .ok (.invokevirtual 323, 3) := by decide +kernel
theorem dX5_digest_74 : decode cX5_digest 74 = .ok (.lstore_n 1, 1) := by decide +kernel
theorem dX5_digest_75 : decode cX5_digest 75 = .ok (.aload_n 0, 1) := by decide +kernel
theorem dX5_digest_76 : decode cX5_digest 76 = .ok (.lload_n 1, 1) := by decide +kernel
theorem dX5_digest_77 : decode cX5_digest 77 = .ok (.invokevirtual 326, 3) := by decide +kernel
theorem dX5_digest_80 : decode cX5_digest 80 = .ok (.lstore_n 1, 1) := by decide +kernel
theorem dX5_digest_81 : decode cX5_digest 81 = .ok (.lload_n 1, 1) := by decide +kernel
theorem dX5_digest_82 : decode cX5_digest 82 = .ok (.aload_n 0, 1) := by decide +kernel
theorem dX5_digest_83 : decode cX5_digest 83 = .ok (.iconst (-1), 1) := by decide +kernel
theorem dX5_digest_84 : decode cX5_digest 84 = .ok (.invokevirtual 329, 3) := by decide +kernel
theorem dX5_digest_87 : decode cX5_digest 87 = .ok (.i2l, 1) := by decide +kernel
theorem dX5_digest_88 : decode cX5_digest 88 = .ok (.invokestatic 303, 3) := by decide +kernel
theorem dX5_digest_91 : decode cX5_digest 91 = .ok (.aload_n 0, 1) := by decide +kernel
theorem dX5_digest_92 : decode cX5_digest 92 = .ok (.iconst 0, 1) := by decide +kernel
theorem dX5_digest_93 : decode cX5_digest 93 = .ok (.invokevirtual 329, 3) := by decide +kernel
theorem dX5_digest_96 : decode cX5_digest 96 = .ok (.i2l, 1) := by decide +kernel
theorem dX5_digest_97 : decode cX5_digest 97 = .ok (.invokestatic 303, 3) := by decide +kernel
theorem dX5_digest_100 : decode cX5_digest 100 = .ok (.lstore_n 1, 1) := by decide +kernel
theorem dX5_digest_101 : decode cX5_digest 101 = .ok (.lload_n 1, 1) := by decide +kernel
theorem dX5_digest_102 : decode cX5_digest 102 = .ok (.aload_n 0, 1) := by decide +kernel
theorem dX5_digest_103 : decode cX5_digest 103 = .ok (.invokevirtual 332, 3) := by decide +kernel
theorem dX5_digest_106 : decode cX5_digest 106 = .ok (.i2l, 1) := by decide +kernel
theorem dX5_digest_107 : decode cX5_digest 107 = .ok (.invokestatic 303, 3) := by decide +kernel
theorem dX5_digest_110 : decode cX5_digest 110 = .ok (.aload_n 0, 1) := by decide +kernel
theorem dX5_digest_111 : decode cX5_digest 111 = .ok (.invokevirtual 335, 3) := by decide +kernel
theorem dX5_digest_114 : decode cX5_digest 114 = .ok (.i2l, 1) := by decide +kernel
theorem dX5_digest_115 : decode cX5_digest 115 = .ok (.invokestatic 303, 3) := by decide +kernel
theorem dX5_digest_118 : decode cX5_digest 118 = .ok (.lstore_n 1, 1) := by decide +kernel
theorem dX5_digest_119 : decode cX5_digest 119 = .ok (.lload_n 1, 1) := by decide +kernel
theorem dX5_digest_120 : decode cX5_digest 120 = .ok (.aload_n 0, 1) := by decide +kernel
theorem dX5_digest_121 : decode cX5_digest 121 = .ok (.bipush 7, 2) := by decide +kernel
theorem dX5_digest_123 : decode cX5_digest 123 = .ok (.bipush 30, 2) := by decide +kernel
theorem dX5_digest_125 : decode cX5_digest 125 = .ok (.iconst 0, 1) := by decide +kernel
theorem dX5_digest_126 : decode cX5_digest 126 = .ok (.invokevirtual 338, 3) := by decide +kernel
theorem dX5_digest_129 : decode cX5_digest 129 = .ok (.i2l, 1) := by decide +kernel
theorem dX5_digest_130 : decode cX5_digest 130 = .ok (.invokestatic 303, 3) := by decide +kernel
theorem dX5_digest_133 : decode cX5_digest 133 = .ok (.aload_n 0, 1) := by decide +kernel
theorem dX5_digest_134 : decode cX5_digest 134 = .ok (.bipush 7, 2) := by decide +kernel
theorem dX5_digest_136 : decode cX5_digest 136 = .ok (.bipush 30, 2) := by decide +kernel
theorem dX5_digest_138 : decode cX5_digest 138 = .ok (.iconst 1, 1) := by decide +kernel
theorem dX5_digest_139 : decode cX5_digest 139 = .ok (.invokevirtual 338, 3) := by decide +kernel
theorem dX5_digest_142 : decode cX5_digest 142 = .ok (.i2l, 1) := by decide +kernel
theorem dX5_digest_143 : decode cX5_digest 143 = .ok (.invokestatic 303, 3) := by decide +kernel
theorem dX5_digest_146 : decode cX5_digest 146 = .ok (.lreturn, 1) := by decide +kernel
theorem dX5_mix_0 : decode cX5_mix 0 = .ok (.ldc2_w 341, 3) := by decide +kernel
theorem dX5_mix_3 : decode cX5_mix 3 = .ok (.lload_n 0, 1) := by decide +kernel
theorem dX5_mix_4 : decode cX5_mix 4 = .ok (.lmul, 1) := by decide +kernel
theorem dX5_mix_5 : decode cX5_mix 5 = .ok (.lload_n 2, 1) := by decide +kernel
theorem dX5_mix_6 : decode cX5_mix 6 = .ok (.ladd, 1) := by decide +kernel
theorem dX5_mix_7 : decode cX5_mix 7 = .ok (.lreturn, 1) := by decide +kernel
theorem dX5_mixDeeds_0 : decode cX5_mixDeeds 0 = .ok (.lload_n 1, 1) := by decide +kernel
theorem dX5_mixDeeds_1 : decode cX5_mixDeeds 1 = .ok (.lstore_n 3, 1) := by decide +kernel
theorem dX5_mixDeeds_2 : decode cX5_mixDeeds 2 = .ok (.iconst 0, 1) := by decide +kernel
theorem dX5_mixDeeds_3 : decode cX5_mixDeeds 3 = .ok (.istore 5, 2) := by decide +kernel
theorem dX5_mixDeeds_5 : decode cX5_mixDeeds 5 = .ok (.iload 5, 2) := by decide +kernel
theorem dX5_mixDeeds_7 : decode cX5_mixDeeds 7 = .ok (.aload_n 0, 1) := by decide +kernel
theorem dX5_mixDeeds_8 : decode cX5_mixDeeds 8 = .ok (.getfield 12, 3) := by decide +kernel
theorem dX5_mixDeeds_11 : decode cX5_mixDeeds 11 = .ok (.invokevirtual 226, 3) := by decide +kernel
theorem dX5_mixDeeds_14 : decode cX5_mixDeeds 14 = .ok (.if_icmp .ge 124, 3) := by decide +kernel
theorem dX5_mixDeeds_17 : decode cX5_mixDeeds 17 = .ok (.lload_n 3, 1) := by decide +kernel
theorem dX5_mixDeeds_18 : decode cX5_mixDeeds 18 = .ok (.aload_n 0, 1) := by decide +kernel
theorem dX5_mixDeeds_19 : decode cX5_mixDeeds 19 = .ok (.iload 5, 2) := by decide +kernel
theorem dX5_mixDeeds_21 : decode cX5_mixDeeds 21 = .ok (.iconst 0, 1) := by decide +kernel
theorem dX5_mixDeeds_22 : decode cX5_mixDeeds 22 = .ok (.invokevirtual 343, 3) := by decide +kernel
theorem dX5_mixDeeds_25 : decode cX5_mixDeeds 25 = .ok (.i2l, 1) := by decide +kernel
theorem dX5_mixDeeds_26 : decode cX5_mixDeeds 26 = .ok (.invokestatic 303, 3) := by decide +kernel
theorem dX5_mixDeeds_29 : decode cX5_mixDeeds 29 = .ok (.aload_n 0, 1) := by decide +kernel
theorem dX5_mixDeeds_30 : decode cX5_mixDeeds 30 = .ok (.iload 5, 2) := by decide +kernel
theorem dX5_mixDeeds_32 : decode cX5_mixDeeds 32 = .ok (.iconst 1, 1) := by decide +kernel
theorem dX5_mixDeeds_33 : decode cX5_mixDeeds 33 = .ok (.invokevirtual 343, 3) := by decide +kernel
theorem dX5_mixDeeds_36 : decode cX5_mixDeeds 36 = .ok (.i2l, 1) := by decide +kernel
theorem dX5_mixDeeds_37 : decode cX5_mixDeeds 37 = .ok (.invokestatic 303, 3) := by decide +kernel
theorem dX5_mixDeeds_40 : decode cX5_mixDeeds 40 = .ok (.aload_n 0, 1) := by decide +kernel
theorem dX5_mixDeeds_41 : decode cX5_mixDeeds 41 = .ok (.iload 5, 2) := by decide +kernel
theorem dX5_mixDeeds_43 : decode cX5_mixDeeds 43 = .ok (.iconst 2, 1) := by decide +kernel
theorem dX5_mixDeeds_44 : decode cX5_mixDeeds 44 = .ok (.invokevirtual 343, 3) := by decide +kernel
theorem dX5_mixDeeds_47 : decode cX5_mixDeeds 47 = .ok (.i2l, 1) := by decide +kernel
theorem dX5_mixDeeds_48 : decode cX5_mixDeeds 48 = .ok (.invokestatic 303, 3) := by decide +kernel
theorem dX5_mixDeeds_51 : decode cX5_mixDeeds 51 = .ok (.lstore_n 3, 1) := by decide +kernel
theorem dX5_mixDeeds_52 : decode cX5_mixDeeds 52 = .ok (.lload_n 3, 1) := by decide +kernel
theorem dX5_mixDeeds_53 : decode cX5_mixDeeds 53 = .ok (.aload_n 0, 1) := by decide +kernel
theorem dX5_mixDeeds_54 : decode cX5_mixDeeds 54 = .ok (.iload 5, 2) := by decide +kernel
theorem dX5_mixDeeds_56 : decode cX5_mixDeeds 56 = .ok (.invokevirtual 346, 3) := by decide +kernel
theorem dX5_mixDeeds_59 : decode cX5_mixDeeds 59 = .ok (.i2l, 1) := by decide +kernel
theorem dX5_mixDeeds_60 : decode cX5_mixDeeds 60 = .ok (.invokestatic 303, 3) := by decide +kernel
theorem dX5_mixDeeds_63 : decode cX5_mixDeeds 63 = .ok (.aload_n 0, 1) := by decide +kernel
theorem dX5_mixDeeds_64 : decode cX5_mixDeeds 64 = .ok (.iload 5, 2) := by decide +kernel
theorem dX5_mixDeeds_66 : decode cX5_mixDeeds 66 = .ok (.iconst 3, 1) := by decide +kernel
theorem dX5_mixDeeds_67 : decode cX5_mixDeeds 67 = .ok (.iconst 5, 1) := by decide +kernel
theorem dX5_mixDeeds_68 : decode cX5_mixDeeds 68 = .ok (.invokevirtual 349, 3) := by decide +kernel
theorem dX5_mixDeeds_71 : decode cX5_mixDeeds 71 = .ok (.i2l, 1) := by decide +kernel
theorem dX5_mixDeeds_72 : decode cX5_mixDeeds 72 = .ok (.invokestatic 303, 3) := by decide +kernel
theorem dX5_mixDeeds_75 : decode cX5_mixDeeds 75 = .ok (.lstore_n 3, 1) := by decide +kernel
theorem dX5_mixDeeds_76 : decode cX5_mixDeeds 76 = .ok (.lload_n 3, 1) := by decide +kernel
theorem dX5_mixDeeds_77 : decode cX5_mixDeeds 77 = .ok (.aload_n 0, 1) := by decide +kernel
theorem dX5_mixDeeds_78 : decode cX5_mixDeeds 78 = .ok (.iload 5, 2) := by decide +kernel
theorem dX5_mixDeeds_80 : decode cX5_mixDeeds 80 = .ok (.iconst 4, 1) := by decide +kernel
theorem dX5_mixDeeds_81 : decode cX5_mixDeeds 81 = .ok (.iconst 2, 1) := by decide +kernel
theorem dX5_mixDeeds_82 : decode cX5_mixDeeds 82 = .ok (.iconst 0, 1) := by decide +kernel
theorem dX5_mixDeeds_83 : decode cX5_mixDeeds 83 = .ok (.invokevirtual 352, 3) := by decide +kernel
theorem dX5_mixDeeds_86 : decode cX5_mixDeeds 86 = .ok (.i2l, 1) := by decide +kernel
theorem dX5_mixDeeds_87 : decode cX5_mixDeeds 87 = .ok (.invokestatic 303, 3) := by decide +kernel
theorem dX5_mixDeeds_90 : decode cX5_mixDeeds 90 = .ok (.aload_n 0, 1) := by decide +kernel
theorem dX5_mixDeeds_91 : decode cX5_mixDeeds 91 = .ok (.iload 5, 2) := by decide +kernel
theorem dX5_mixDeeds_93 : decode cX5_mixDeeds 93 = .ok (.iconst 4, 1) := by decide +kernel
theorem dX5_mixDeeds_94 : decode cX5_mixDeeds 94 = .ok (.iconst 2, 1) := by decide +kernel
theorem dX5_mixDeeds_95 : decode cX5_mixDeeds 95 = .ok (.iconst 1, 1) := by decide +kernel
theorem dX5_mixDeeds_96 : decode cX5_mixDeeds 96 = .ok (.invokevirtual 352, 3) := by decide +kernel
theorem dX5_mixDeeds_99 : decode cX5_mixDeeds 99 = .ok (.i2l, 1) := by decide +kernel
theorem dX5_mixDeeds_100 : decode cX5_mixDeeds 100 = .ok (.invokestatic 303, 3) := by decide +kernel
theorem dX5_mixDeeds_103 : decode cX5_mixDeeds 103 = .ok (.lstore_n 3, 1) := by decide +kernel
theorem dX5_mixDeeds_104 : decode cX5_mixDeeds 104 = .ok (.lload_n 3, 1) := by decide +kernel
theorem dX5_mixDeeds_105 : decode cX5_mixDeeds 105 = .ok (.aload_n 0, 1) := by decide +kernel
theorem dX5_mixDeeds_106 : decode cX5_mixDeeds 106 = .ok (.iconst 5, 1) := by decide +kernel
theorem dX5_mixDeeds_107 : decode cX5_mixDeeds 107 = .ok (.iconst 3, 1) := by decide +kernel
theorem dX5_mixDeeds_108 : decode cX5_mixDeeds 108 = .ok (.iload 5, 2) := by decide +kernel
theorem dX5_mixDeeds_110 : decode cX5_mixDeeds 110 = .ok (.iconst 4, 1) := by decide +kernel
theorem dX5_mixDeeds_111 : decode cX5_mixDeeds 111 = .ok (.iconst 0, 1) := by decide +kernel
theorem dX5_mixDeeds_112 : decode cX5_mixDeeds 112 = .ok (.invokevirtual 356, 3) := by decide +kernel
theorem dX5_mixDeeds_115 : decode cX5_mixDeeds 115 = .ok (.invokestatic 303, 3) := by decide +kernel
theorem dX5_mixDeeds_118 : decode cX5_mixDeeds 118 = .ok (.aload_n 0, 1) := by decide +kernel
theorem dX5_mixDeeds_119 : decode cX5_mixDeeds 119 = .ok (.iconst 5, 1) := by decide +kernel
theorem dX5_mixDeeds_120 : decode cX5_mixDeeds 120 = .ok (.iconst 3, 1) := by decide +kernel
theorem dX5_mixDeeds_121 : decode cX5_mixDeeds 121 = .ok (.iload 5, 2) := by decide +kernel
theorem dX5_mixDeeds_123 : decode cX5_mixDeeds 123 = .ok (.iconst 4, 1) := by decide +kernel
theorem dX5_mixDeeds_124 : decode cX5_mixDeeds 124 = .ok (.iconst 1, 1) := by decide +kernel
theorem dX5_mixDeeds_125 : decode cX5_mixDeeds 125 = .ok (.invokevirtual 356, 3) := by decide +kernel
theorem dX5_mixDeeds_128 : decode cX5_mixDeeds 128 = .ok (.invokestatic 303, 3) := by decide +kernel
theorem dX5_mixDeeds_131 : decode cX5_mixDeeds 131 = .ok (.lstore_n 3, 1) := by decide +kernel
theorem dX5_mixDeeds_132 : decode cX5_mixDeeds 132 = .ok (.iinc 5 1, 3) := by decide +kernel
theorem dX5_mixDeeds_135 : decode cX5_mixDeeds 135 = .ok (.goto (-130), 3) := by decide +kernel
theorem dX5_mixDeeds_138 : decode cX5_mixDeeds 138 = .ok (.lload_n 3, 1) := by decide +kernel
theorem dX5_mixDeeds_139 : decode cX5_mixDeeds 139 = .ok (.lreturn, 1) := by decide +kernel
theorem dX5_mixDays_0 : decode cX5_mixDays 0 = .ok (.lload_n 1, 1) := by decide +kernel
theorem dX5_mixDays_1 : decode cX5_mixDays 1 = .ok (.lstore_n 3, 1) := by decide +kernel
theorem dX5_mixDays_2 : decode cX5_mixDays 2 = .ok (.getstatic 360, 3) := by decide +kernel
theorem dX5_mixDays_5 : decode cX5_mixDays 5 = .ok (.astore 5, 2) := by decide +kernel
theorem dX5_mixDays_7 : decode cX5_mixDays 7 = .ok (.aload 5, 2) := by decide +kernel
theorem dX5_mixDays_9 : decode cX5_mixDays 9 = .ok (.arraylength, 1) := by decide +kernel
theorem dX5_mixDays_10 : decode cX5_mixDays 10 = .ok (.istore 6, 2) := by decide +kernel
theorem dX5_mixDays_12 : decode cX5_mixDays 12 = .ok (.iconst 0, 1) := by decide +kernel
theorem dX5_mixDays_13 : decode cX5_mixDays 13 = .ok (.istore 7, 2) := by decide +kernel
theorem dX5_mixDays_15 : decode cX5_mixDays 15 = .ok (.iload 7, 2) := by decide +kernel
theorem dX5_mixDays_17 : decode cX5_mixDays 17 = .ok (.iload 6, 2) := by decide +kernel
theorem dX5_mixDays_19 : decode cX5_mixDays 19 = .ok (.if_icmp .ge 64, 3) := by decide +kernel
theorem dX5_mixDays_22 : decode cX5_mixDays 22 = .ok (.aload 5, 2) := by decide +kernel
theorem dX5_mixDays_24 : decode cX5_mixDays 24 = .ok (.iload 7, 2) := by decide +kernel
theorem dX5_mixDays_26 : decode cX5_mixDays 26 = .ok (.iaload, 1) := by decide +kernel
theorem dX5_mixDays_27 : decode cX5_mixDays 27 = .ok (.istore 8, 2) := by decide +kernel
theorem dX5_mixDays_29 : decode cX5_mixDays 29 = .ok (.lload_n 3, 1) := by decide +kernel
theorem dX5_mixDays_30 : decode cX5_mixDays 30 = .ok (.aload_n 0, 1) := by decide +kernel
theorem dX5_mixDays_31 : decode cX5_mixDays 31 = .ok (.iload 8, 2) := by decide +kernel
theorem dX5_mixDays_33 : decode cX5_mixDays 33 = .ok (.invokevirtual 364, 3) := by decide +kernel
theorem dX5_mixDays_36 : decode cX5_mixDays 36 = .ok (.i2l, 1) := by decide +kernel
theorem dX5_mixDays_37 : decode cX5_mixDays 37 = .ok (.invokestatic 303, 3) := by decide +kernel
theorem dX5_mixDays_40 : decode cX5_mixDays 40 = .ok (.lstore_n 3, 1) := by decide +kernel
theorem dX5_mixDays_41 : decode cX5_mixDays 41 = .ok (.lload_n 3, 1) := by decide +kernel
theorem dX5_mixDays_42 : decode cX5_mixDays 42 = .ok (.aload_n 0, 1) := by decide +kernel
theorem dX5_mixDays_43 : decode cX5_mixDays 43 = .ok (.iload 8, 2) := by decide +kernel
theorem dX5_mixDays_45 : decode cX5_mixDays 45 = .ok (.iconst 0, 1) := by decide +kernel
theorem dX5_mixDays_46 : decode cX5_mixDays 46 = .ok (.invokevirtual 367, 3) := by decide +kernel
theorem dX5_mixDays_49 : decode cX5_mixDays 49 = .ok (.i2l, 1) := by decide +kernel
theorem dX5_mixDays_50 : decode cX5_mixDays 50 = .ok (.invokestatic 303, 3) := by decide +kernel
theorem dX5_mixDays_53 : decode cX5_mixDays 53 = .ok (.aload_n 0, 1) := by decide +kernel
theorem dX5_mixDays_54 : decode cX5_mixDays 54 = .ok (.iload 8, 2) := by decide +kernel
theorem dX5_mixDays_56 : decode cX5_mixDays 56 = .ok (.iconst 1, 1) := by decide +kernel
theorem dX5_mixDays_57 : decode cX5_mixDays 57 = .ok (.invokevirtual 367, 3) := by decide +kernel
theorem dX5_mixDays_60 : decode cX5_mixDays 60 = .ok (.i2l, 1) := by decide +kernel
theorem dX5_mixDays_61 : decode cX5_mixDays 61 = .ok (.invokestatic 303, 3) := by decide +kernel
theorem dX5_mixDays_64 : decode cX5_mixDays 64 = .ok (.lstore_n 3, 1) := by decide +kernel
theorem dX5_mixDays_65 : decode cX5_mixDays 65 = .ok (.lload_n 3, 1) := by decide +kernel
theorem dX5_mixDays_66 : decode cX5_mixDays 66 = .ok (.aload_n 0, 1) := by decide +kernel
theorem dX5_mixDays_67 : decode cX5_mixDays 67 = .ok (.iload 8, 2) := by decide +kernel
theorem dX5_mixDays_69 : decode cX5_mixDays 69 = .ok (.invokevirtual 370, 3) := by decide +kernel
theorem dX5_mixDays_72 : decode cX5_mixDays 72 = .ok (.i2l, 1) := by decide +kernel
theorem dX5_mixDays_73 : decode cX5_mixDays 73 = .ok (.invokestatic 303, 3) := by decide +kernel
theorem dX5_mixDays_76 : decode cX5_mixDays 76 = .ok (.lstore_n 3, 1) := by decide +kernel
theorem dX5_mixDays_77 : decode cX5_mixDays 77 = .ok (.iinc 7 1, 3) := by decide +kernel
theorem dX5_mixDays_80 : decode cX5_mixDays 80 = .ok (.goto (-65), 3) := by decide +kernel
theorem dX5_mixDays_83 : decode cX5_mixDays 83 = .ok (.lload_n 3, 1) := by decide +kernel
theorem dX5_mixDays_84 : decode cX5_mixDays 84 = .ok (.lreturn, 1) := by decide +kernel
theorem dX5_mixFines_0 : decode cX5_mixFines 0 = .ok (.lload_n 1, 1) := by decide +kernel
theorem dX5_mixFines_1 : decode cX5_mixFines 1 = .ok (.lstore_n 3, 1) := by decide +kernel
theorem dX5_mixFines_2 : decode cX5_mixFines 2 = .ok (.iconst 0, 1) := by decide +kernel
theorem dX5_mixFines_3 : decode cX5_mixFines 3 = .ok (.istore 5, 2) := by decide +kernel
theorem dX5_mixFines_5 : decode cX5_mixFines 5 = .ok (.iload 5, 2) := by decide +kernel
theorem dX5_mixFines_7 : decode cX5_mixFines 7 = .ok (.aload_n 0, 1) := by decide +kernel
theorem dX5_mixFines_8 : decode cX5_mixFines 8 = .ok (.getfield 31, 3) := by decide +kernel
theorem dX5_mixFines_11 : decode cX5_mixFines 11 = .ok (.invokevirtual 173, 3) := by decide +kernel
theorem dX5_mixFines_14 : decode cX5_mixFines 14 = .ok (.if_icmp .ge 21, 3) := by decide +kernel
theorem dX5_mixFines_17 : decode cX5_mixFines 17 = .ok (.lload_n 3, 1) := by decide +kernel
theorem dX5_mixFines_18 : decode cX5_mixFines 18 = .ok (.aload_n 0, 1) := by decide +kernel
theorem dX5_mixFines_19 : decode cX5_mixFines 19 = .ok (.iload 5, 2) := by decide +kernel
theorem dX5_mixFines_21 : decode cX5_mixFines 21 = .ok (.invokevirtual 373, 3) := by decide +kernel
theorem dX5_mixFines_24 : decode cX5_mixFines 24 = .ok (.i2l, 1) := by decide +kernel
theorem dX5_mixFines_25 : decode cX5_mixFines 25 = .ok (.invokestatic 303, 3) := by decide +kernel
theorem dX5_mixFines_28 : decode cX5_mixFines 28 = .ok (.lstore_n 3, 1) := by decide +kernel
theorem dX5_mixFines_29 : decode cX5_mixFines 29 = .ok (.iinc 5 1, 3) := by decide +kernel
theorem dX5_mixFines_32 : decode cX5_mixFines 32 = .ok (.goto (-27), 3) := by decide +kernel
theorem dX5_mixFines_35 : decode cX5_mixFines 35 = .ok (.lload_n 3, 1) := by decide +kernel
theorem dX5_mixFines_36 : decode cX5_mixFines 36 = .ok (.aload_n 0, 1) := by decide +kernel
theorem dX5_mixFines_37 : decode cX5_mixFines 37 = .ok (.iconst 0, 1) := by decide +kernel
theorem dX5_mixFines_38 : decode cX5_mixFines 38 = .ok (.invokevirtual 376, 3) := by decide +kernel
theorem dX5_mixFines_41 : decode cX5_mixFines 41 = .ok (.i2l, 1) := by decide +kernel
theorem dX5_mixFines_42 : decode cX5_mixFines 42 = .ok (.invokestatic 303, 3) := by decide +kernel
theorem dX5_mixFines_45 : decode cX5_mixFines 45 = .ok (.aload_n 0, 1) := by decide +kernel
theorem dX5_mixFines_46 : decode cX5_mixFines 46 = .ok (.iconst 1, 1) := by decide +kernel
theorem dX5_mixFines_47 : decode cX5_mixFines 47 = .ok (.invokevirtual 376, 3) := by decide +kernel
theorem dX5_mixFines_50 : decode cX5_mixFines 50 = .ok (.i2l, 1) := by decide +kernel
theorem dX5_mixFines_51 : decode cX5_mixFines 51 = .ok (.invokestatic 303, 3) := by decide +kernel
theorem dX5_mixFines_54 : decode cX5_mixFines 54 = .ok (.lreturn, 1) := by decide +kernel
theorem dX5_mixPlans_0 : decode cX5_mixPlans 0 = .ok (.lload_n 1, 1) := by decide +kernel
theorem dX5_mixPlans_1 : decode cX5_mixPlans 1 = .ok (.aload_n 0, 1) := by decide +kernel
theorem dX5_mixPlans_2 : decode cX5_mixPlans 2 = .ok (.iconst 2, 1) := by decide +kernel
theorem dX5_mixPlans_3 : decode cX5_mixPlans 3 = .ok (.iconst (-1), 1) := by decide +kernel
theorem dX5_mixPlans_4 : decode cX5_mixPlans 4 = .ok (.invokevirtual 379, 3) := by decide +kernel
theorem dX5_mixPlans_7 : decode cX5_mixPlans 7 = .ok (.i2l, 1) := by decide +kernel
theorem dX5_mixPlans_8 : decode cX5_mixPlans 8 = .ok (.invokestatic 303, 3) := by decide +kernel
theorem dX5_mixPlans_11 : decode cX5_mixPlans 11 = .ok (.aload_n 0, 1) := by decide +kernel
theorem dX5_mixPlans_12 : decode cX5_mixPlans 12 = .ok (.iconst 2, 1) := by decide +kernel
theorem dX5_mixPlans_13 : decode cX5_mixPlans 13 = .ok (.iconst 0, 1) := by decide +kernel
theorem dX5_mixPlans_14 : decode cX5_mixPlans 14 = .ok (.invokevirtual 379, 3) := by decide +kernel
theorem dX5_mixPlans_17 : decode cX5_mixPlans 17 = .ok (.i2l, 1) := by decide +kernel
theorem dX5_mixPlans_18 : decode cX5_mixPlans 18 = .ok (.invokestatic 303, 3) := by decide +kernel
theorem dX5_mixPlans_21 : decode cX5_mixPlans 21 = .ok (.lstore_n 3, 1) := by decide +kernel
theorem dX5_mixPlans_22 : decode cX5_mixPlans 22 = .ok (.lload_n 3, 1) := by decide +kernel
theorem dX5_mixPlans_23 : decode cX5_mixPlans 23 = .ok (.aload_n 0, 1) := by decide +kernel
theorem dX5_mixPlans_24 : decode cX5_mixPlans 24 = .ok (.iconst 2, 1) := by decide +kernel
theorem dX5_mixPlans_25 : decode cX5_mixPlans 25 = .ok (.iconst (-1), 1) := by decide +kernel
theorem dX5_mixPlans_26 : decode cX5_mixPlans 26 = .ok (.invokevirtual 382, 3) := by decide +kernel
theorem dX5_mixPlans_29 : decode cX5_mixPlans 29 = .ok (.i2l, 1) := by decide +kernel
theorem dX5_mixPlans_30 : decode cX5_mixPlans 30 = .ok (.invokestatic 303, 3) := by decide +kernel
theorem dX5_mixPlans_33 : decode cX5_mixPlans 33 = .ok (.aload_n 0, 1) := by decide +kernel
theorem dX5_mixPlans_34 : decode cX5_mixPlans 34 = .ok (.iconst 2, 1) := by decide +kernel
theorem dX5_mixPlans_35 : decode cX5_mixPlans 35 = .ok (.iconst 0, 1) := by decide +kernel
theorem dX5_mixPlans_36 : decode cX5_mixPlans 36 = .ok (.invokevirtual 382, 3) := by decide +kernel
theorem dX5_mixPlans_39 : decode cX5_mixPlans 39 = .ok (.i2l, 1) := by decide +kernel
theorem dX5_mixPlans_40 : decode cX5_mixPlans 40 = .ok (.invokestatic 303, 3) := by decide +kernel
theorem dX5_mixPlans_43 : decode cX5_mixPlans 43 = .ok (.lstore_n 3, 1) := by decide +kernel
theorem dX5_mixPlans_44 : decode cX5_mixPlans 44 = .ok (.lload_n 3, 1) := by decide +kernel
theorem dX5_mixPlans_45 : decode cX5_mixPlans 45 = .ok (.aload_n 0, 1) := by decide +kernel
theorem dX5_mixPlans_46 : decode cX5_mixPlans 46 = .ok (.iconst 4, 1) := by decide +kernel
theorem dX5_mixPlans_47 : decode cX5_mixPlans 47 = .ok (.iconst 2, 1) := by decide +kernel
theorem dX5_mixPlans_48 : decode cX5_mixPlans 48 = .ok (.iconst 0, 1) := by decide +kernel
theorem dX5_mixPlans_49 : decode cX5_mixPlans 49 = .ok (.invokevirtual 385, 3) := by decide +kernel
theorem dX5_mixPlans_52 : decode cX5_mixPlans 52 = .ok (.i2l, 1) := by decide +kernel
theorem dX5_mixPlans_53 : decode cX5_mixPlans 53 = .ok (.invokestatic 303, 3) := by decide +kernel
theorem dX5_mixPlans_56 : decode cX5_mixPlans 56 = .ok (.aload_n 0, 1) := by decide +kernel
theorem dX5_mixPlans_57 : decode cX5_mixPlans 57 = .ok (.iconst 4, 1) := by decide +kernel
theorem dX5_mixPlans_58 : decode cX5_mixPlans 58 = .ok (.iconst 2, 1) := by decide +kernel
theorem dX5_mixPlans_59 : decode cX5_mixPlans 59 = .ok (.iconst 1, 1) := by decide +kernel
theorem dX5_mixPlans_60 : decode cX5_mixPlans 60 = .ok (.invokevirtual 385, 3) := by decide +kernel
theorem dX5_mixPlans_63 : decode cX5_mixPlans 63 = .ok (.i2l, 1) := by decide +kernel
theorem dX5_mixPlans_64 : decode cX5_mixPlans 64 = .ok (.invokestatic 303, 3) := by decide +kernel
theorem dX5_mixPlans_67 : decode cX5_mixPlans 67 = .ok (.lreturn, 1) := by decide +kernel
theorem dX5_within_0 : decode cX5_within 0 = .ok (.iload_n 0, 1) := by decide +kernel
theorem dX5_within_1 : decode cX5_within 1 = .ok (.iload_n 1, 1) := by decide +kernel
theorem dX5_within_2 : decode cX5_within 2 = .ok (.if_icmp .lt 12, 3) := by decide +kernel
theorem dX5_within_5 : decode cX5_within 5 = .ok (.iload_n 0, 1) := by decide +kernel
theorem dX5_within_6 : decode cX5_within 6 = .ok (.iload_n 2, 1) := by decide +kernel
theorem dX5_within_7 : decode cX5_within 7 = .ok (.if_icmp .gt 7, 3) := by decide +kernel
theorem dX5_within_10 : decode cX5_within 10 = .ok (.iconst 1, 1) := by decide +kernel
theorem dX5_within_11 : decode cX5_within 11 = .ok (.goto 4, 3) := by decide +kernel
theorem dX5_within_14 : decode cX5_within 14 = .ok (.iconst 0, 1) := by decide +kernel
theorem dX5_within_15 : decode cX5_within 15 = .ok (.ireturn, 1) := by decide +kernel
theorem dX5_isDay_0 : decode cX5_isDay 0 = .ok (.iload_n 0, 1) := by decide +kernel
theorem dX5_isDay_1 : decode cX5_isDay 1 = .ok (.ifCond .lt 13, 3) := by decide +kernel
theorem dX5_isDay_4 : decode cX5_isDay 4 = .ok (.iload_n 0, 1) := by decide +kernel
theorem dX5_isDay_5 : decode cX5_isDay 5 = .ok (.bipush 40, 2) := by decide +kernel
theorem dX5_isDay_7 : decode cX5_isDay 7 = .ok (.if_icmp .ge 7, 3) := by decide +kernel
theorem dX5_isDay_10 : decode cX5_isDay 10 = .ok (.iconst 1, 1) := by decide +kernel
theorem dX5_isDay_11 : decode cX5_isDay 11 = .ok (.goto 4, 3) := by decide +kernel
theorem dX5_isDay_14 : decode cX5_isDay 14 = .ok (.iconst 0, 1) := by decide +kernel
theorem dX5_isDay_15 : decode cX5_isDay 15 = .ok (.ireturn, 1) := by decide +kernel
theorem dX5_isKing_0 : decode cX5_isKing 0 = .ok (.iload_n 0, 1) := by decide +kernel
theorem dX5_isKing_1 : decode cX5_isKing 1 = .ok (.iconst 0, 1) := by decide +kernel
theorem dX5_isKing_2 : decode cX5_isKing 2 = .ok (.iconst 1, 1) := by decide +kernel
theorem dX5_isKing_3 : decode cX5_isKing 3 = .ok (.invokestatic 71, 3) := by decide +kernel
theorem dX5_isKing_6 : decode cX5_isKing 6 = .ok (.ireturn, 1) := by decide +kernel
theorem dX5_mayBeDeed_0 : decode cX5_mayBeDeed 0 = .ok (.iload_n 0, 1) := by decide +kernel
theorem dX5_mayBeDeed_1 : decode cX5_mayBeDeed 1 = .ok (.iconst 0, 1) := by decide +kernel
theorem dX5_mayBeDeed_2 : decode cX5_mayBeDeed 2 = .ok (.bipush 7, 2) := by decide +kernel
theorem dX5_mayBeDeed_4 : decode cX5_mayBeDeed 4 = .ok (.invokestatic 71, 3) := by decide +kernel
theorem dX5_mayBeDeed_7 : decode cX5_mayBeDeed 7 = .ok (.ireturn, 1) := by decide +kernel
theorem dX5_isSheet_0 : decode cX5_isSheet 0 = .ok (.iload_n 0, 1) := by decide +kernel
theorem dX5_isSheet_1 : decode cX5_isSheet 1 = .ok (.iconst 0, 1) := by decide +kernel
theorem dX5_isSheet_2 : decode cX5_isSheet 2 = .ok (.iconst 3, 1) := by decide +kernel
theorem dX5_isSheet_3 : decode cX5_isSheet 3 = .ok (.invokestatic 71, 3) := by decide +kernel
theorem dX5_isSheet_6 : decode cX5_isSheet 6 = .ok (.ireturn, 1) := by decide +kernel
theorem dX5_isForm_0 : decode cX5_isForm 0 = .ok (.iload_n 0, 1) := by decide +kernel
theorem dX5_isForm_1 : decode cX5_isForm 1 = .ok (.iconst 0, 1) := by decide +kernel
theorem dX5_isForm_2 : decode cX5_isForm 2 = .ok (.iconst 2, 1) := by decide +kernel
theorem dX5_isForm_3 : decode cX5_isForm 3 = .ok (.invokestatic 71, 3) := by decide +kernel
theorem dX5_isForm_6 : decode cX5_isForm 6 = .ok (.ireturn, 1) := by decide +kernel
theorem dX5_changed_0 : decode cX5_changed 0 = .ok (.aload_n 0, 1) := by decide +kernel
theorem dX5_changed_1 : decode cX5_changed 1 = .ok (.iconst 1, 1) := by decide +kernel
theorem dX5_changed_2 : decode cX5_changed 2 = .ok (.putfield 66, 3) := by decide +kernel
theorem dX5_changed_5 : decode cX5_changed 5 = .ok (.iload_n 1, 1) := by decide +kernel
theorem dX5_changed_6 : decode cX5_changed 6 = .ok (.ireturn, 1) := by decide +kernel
theorem dX5_laws_0 : decode cX5_laws 0 = .ok (.aload_n 0, 1) := by decide +kernel
theorem dX5_laws_1 : decode cX5_laws 1 = .ok (.getfield 66, 3) := by decide +kernel
theorem dX5_laws_4 : decode cX5_laws 4 = .ok (.ifCond .eq 43, 3) := by decide +kernel
theorem dX5_laws_7 : decode cX5_laws 7 = .ok (.aload_n 0, 1) := by decide +kernel
theorem dX5_laws_8 : decode cX5_laws 8 = .ok (.getfield 46, 3) := by decide +kernel
theorem dX5_laws_11 : decode cX5_laws 11 = .ok (.aload_n 0, 1) := by decide +kernel
theorem dX5_laws_12 : decode cX5_laws 12 = .ok (.getfield 21, 3) := by decide +kernel
theorem dX5_laws_15 : decode cX5_laws 15 = .ok (.aload_n 0, 1) := by decide +kernel
theorem dX5_laws_16 : decode cX5_laws 16 = .ok (.getfield 25, 3) := by decide +kernel
theorem dX5_laws_19 : decode cX5_laws 19 = .ok (.invokevirtual 234, 3) := by decide +kernel
theorem dX5_laws_22 : decode cX5_laws 22 = .ok (.aload_n 0, 1) := by decide +kernel
theorem dX5_laws_23 : decode cX5_laws 23 = .ok (.getfield 46, 3) := by decide +kernel
theorem dX5_laws_26 : decode cX5_laws 26 = .ok (.aload_n 0, 1) := by decide +kernel
theorem dX5_laws_27 : decode cX5_laws 27 = .ok (.getfield 12, 3) := by decide +kernel
theorem dX5_laws_30 : decode cX5_laws 30 = .ok (.aload_n 0, 1) := by decide +kernel
theorem dX5_laws_31 : decode cX5_laws 31 = .ok (.getfield 106, 3) := by decide +kernel
theorem dX5_laws_34 : decode cX5_laws 34 = .ok (.aload_n 0, 1) := by decide +kernel
theorem dX5_laws_35 : decode cX5_laws 35 = .ok (.getfield 28, 3) := by decide +kernel
theorem dX5_laws_38 : decode cX5_laws 38 = .ok (.iconst (-1), 1) := by decide +kernel
theorem dX5_laws_39 : decode cX5_laws 39 = .ok (.invokevirtual 238, 3) := by decide +kernel
theorem dX5_laws_42 : decode cX5_laws 42 = .ok (.aload_n 0, 1) := by decide +kernel
theorem dX5_laws_43 : decode cX5_laws 43 = .ok (.iconst 0, 1) := by decide +kernel
theorem dX5_laws_44 : decode cX5_laws 44 = .ok (.putfield 66, 3) := by decide +kernel
theorem dX5_laws_47 : decode cX5_laws 47 = .ok (.aload_n 0, 1) := by decide +kernel
theorem dX5_laws_48 : decode cX5_laws 48 = .ok (.getfield 46, 3) := by decide +kernel
theorem dX5_laws_51 : decode cX5_laws 51 = .ok (.areturn, 1) := by decide +kernel
theorem dX5_undoable_0 : decode cX5_undoable 0 = .ok (.iload_n 1, 1) := by decide +kernel
theorem dX5_undoable_1 : decode cX5_undoable 1 = .ok (.tableswitch 60 0 4 #[35, 40, 45, 50, 55], 35) := by decide +kernel
theorem dX5_undoable_36 : decode cX5_undoable 36 = .ok (.aload_n 0, 1) := by decide +kernel
theorem dX5_undoable_37 : decode cX5_undoable 37 = .ok (.getfield 21, 3) := by decide +kernel
theorem dX5_undoable_40 : decode cX5_undoable 40 = .ok (.areturn, 1) := by decide +kernel
theorem dX5_undoable_41 : decode cX5_undoable 41 = .ok (.aload_n 0, 1) := by decide +kernel
theorem dX5_undoable_42 : decode cX5_undoable 42 = .ok (.getfield 25, 3) := by decide +kernel
theorem dX5_undoable_45 : decode cX5_undoable 45 = .ok (.areturn, 1) := by decide +kernel
theorem dX5_undoable_46 : decode cX5_undoable 46 = .ok (.aload_n 0, 1) := by decide +kernel
theorem dX5_undoable_47 : decode cX5_undoable 47 = .ok (.getfield 28, 3) := by decide +kernel
theorem dX5_undoable_50 : decode cX5_undoable 50 = .ok (.areturn, 1) := by decide +kernel
theorem dX5_undoable_51 : decode cX5_undoable 51 = .ok (.aload_n 0, 1) := by decide +kernel
theorem dX5_undoable_52 : decode cX5_undoable 52 = .ok (.getfield 31, 3) := by decide +kernel
theorem dX5_undoable_55 : decode cX5_undoable 55 = .ok (.areturn, 1) := by decide +kernel
theorem dX5_undoable_56 : decode cX5_undoable 56 = .ok (.aload_n 0, 1) := by decide +kernel
theorem dX5_undoable_57 : decode cX5_undoable 57 = .ok (.getfield 34, 3) := by decide +kernel
theorem dX5_undoable_60 : decode cX5_undoable 60 = .ok (.areturn, 1) := by decide +kernel
theorem dX5_undoable_61 : decode cX5_undoable 61 = .ok (.aconst_null, 1) := by decide +kernel
theorem dX5_undoable_62 : decode cX5_undoable 62 = .ok (.areturn, 1) := by decide +kernel
theorem dX5_found_0 : decode cX5_found 0 = .ok (.aload_n 0, 1) := by decide +kernel
theorem dX5_found_1 : decode cX5_found 1 = .ok (.iload_n 1, 1) := by decide +kernel
theorem dX5_found_2 : decode cX5_found 2 = .ok (.putfield 295, 3) := by decide +kernel
theorem dX5_found_5 : decode cX5_found 5 = .ok (.bipush (-10), 2) := by decide +kernel
theorem dX5_found_7 : decode cX5_found 7 = .ok (.iload_n 1, 1) := by decide +kernel
theorem dX5_found_8 : decode cX5_found 8 = .ok (.isub, 1) := by decide +kernel
theorem dX5_found_9 : decode cX5_found 9 = .ok (.ireturn, 1) := by decide +kernel
theorem dX5_itemFinding_0 : decode cX5_itemFinding 0 = .ok (.aload_n 0, 1) := by decide +kernel
theorem dX5_itemFinding_1 : decode cX5_itemFinding 1 = .ok (.invokevirtual 137, 3) := by decide +kernel
theorem dX5_itemFinding_4 : decode cX5_itemFinding 4 = .ok (.ifCond .eq 5, 3) := by decide +kernel
theorem dX5_itemFinding_7 : decode cX5_itemFinding 7 = .ok (.iconst 1, 1) := by decide +kernel
theorem dX5_itemFinding_8 : decode cX5_itemFinding 8 = .ok (.ireturn, 1) := by decide +kernel
theorem dX5_itemFinding_9 : decode cX5_itemFinding 9 = .ok (.aload_n 0, 1) := by decide +kernel
theorem dX5_itemFinding_10 : decode cX5_itemFinding 10 = .ok (.invokevirtual 278, 3) := by decide +kernel
theorem dX5_itemFinding_13 : decode cX5_itemFinding 13 = .ok (.iload_n 1, 1) := by decide +kernel
theorem dX5_itemFinding_14 : decode cX5_itemFinding 14 = .ok (.if_icmp .eq 5, 3) := by decide +kernel
theorem dX5_itemFinding_17 : decode cX5_itemFinding 17 = .ok (.iconst 3, 1) := by decide +kernel
theorem dX5_itemFinding_18 : decode cX5_itemFinding 18 = .ok (.ireturn, 1) := by decide +kernel
theorem dX5_itemFinding_19 : decode cX5_itemFinding 19 = .ok (.aload_n 0, 1) := by decide +kernel
theorem dX5_itemFinding_20 : decode cX5_itemFinding 20 = .ok (.iload_n 2, 1) := by decide +kernel
theorem dX5_itemFinding_21 : decode cX5_itemFinding 21 = .ok (.iconst 1, 1) := by decide +kernel
theorem dX5_itemFinding_22 : decode cX5_itemFinding 22 = .ok (.invokevirtual 281, 3) := by decide +kernel
theorem dX5_itemFinding_25 : decode cX5_itemFinding 25 = .ok (.ifCond .eq 7, 3) := by decide +kernel
theorem dX5_itemFinding_28 : decode cX5_itemFinding 28 = .ok (.iconst 0, 1) := by decide +kernel
theorem dX5_itemFinding_29 : decode cX5_itemFinding 29 = .ok (.goto 4, 3) := by decide +kernel
theorem dX5_itemFinding_32 : decode cX5_itemFinding 32 = .ok (.iconst 2, 1) := by decide +kernel
theorem dX5_itemFinding_33 : decode cX5_itemFinding 33 = .ok (.ireturn, 1) := by decide +kernel
theorem dX5_finesInCoin_0 : decode cX5_finesInCoin 0 = .ok (.aload_n 0, 1) := by decide +kernel
theorem dX5_finesInCoin_1 : decode cX5_finesInCoin 1 = .ok (.getfield 31, 3) := by decide +kernel
theorem dX5_finesInCoin_4 : decode cX5_finesInCoin 4 = .ok (.iload_n 2, 1) := by decide +kernel
theorem dX5_finesInCoin_5 : decode cX5_finesInCoin 5 = .ok (.invokevirtual 388, 3) := by decide +kernel
theorem dX5_finesInCoin_8 : decode cX5_finesInCoin 8 = .ok (.istore 4, 2) := by decide +kernel
theorem dX5_finesInCoin_10 : decode cX5_finesInCoin 10 = .ok (.aload_n 0, 1) := by decide +kernel
theorem dX5_finesInCoin_11 : decode cX5_finesInCoin 11 = .ok (.getfield 12, 3) := by decide +kernel
theorem dX5_finesInCoin_14 : decode cX5_finesInCoin 14 = .ok (.iload 4, 2) := by decide +kernel
theorem dX5_finesInCoin_16 : decode cX5_finesInCoin 16 = .ok (.invokevirtual 92, 3) := by decide +kernel
theorem dX5_finesInCoin_19 : decode cX5_finesInCoin 19 = .ok (.ifCond .ne 5, 3) := by decide +kernel
theorem dX5_finesInCoin_22 : decode cX5_finesInCoin 22 = .ok (.iconst 0, 1) := by decide +kernel
theorem dX5_finesInCoin_23 : decode cX5_finesInCoin 23 = .ok (.ireturn, 1) := by decide +kernel
theorem dX5_finesInCoin_24 : decode cX5_finesInCoin 24 = .ok (.aload_n 0, 1) := by decide +kernel
theorem dX5_finesInCoin_25 : decode cX5_finesInCoin 25 = .ok (.getfield 31, 3) := by decide +kernel
theorem dX5_finesInCoin_28 : decode cX5_finesInCoin 28 = .ok (.iload_n 2, 1) := by decide +kernel
theorem dX5_finesInCoin_29 : decode cX5_finesInCoin 29 = .ok (.invokevirtual 391, 3) := by decide +kernel
theorem dX5_finesInCoin_32 : decode cX5_finesInCoin 32 = .ok (.istore 5, 2) := by decide +kernel
theorem dX5_finesInCoin_34 : decode cX5_finesInCoin 34 = .ok (.iload 5, 2) := by decide +kernel
theorem dX5_finesInCoin_36 : decode cX5_finesInCoin 36 = .ok (.aload_n 0, 1) := by decide +kernel
theorem dX5_finesInCoin_37 : decode cX5_finesInCoin 37 = .ok (.getfield 31, 3) := by decide +kernel
theorem dX5_finesInCoin_40 : decode cX5_finesInCoin 40 = .ok (.iload_n 2, 1) := by decide +kernel
theorem dX5_finesInCoin_41 : decode cX5_finesInCoin 41 = .ok (.invokevirtual 394, 3) := by decide +kernel
theorem dX5_finesInCoin_44 : decode cX5_finesInCoin 44 = .ok (.iadd, 1) := by decide +kernel
theorem dX5_finesInCoin_45 : decode cX5_finesInCoin 45 = .ok (.iconst 1, 1) := by decide +kernel
theorem dX5_finesInCoin_46 : decode cX5_finesInCoin 46 = .ok (.isub, 1) := by decide +kernel
theorem dX5_finesInCoin_47 : decode cX5_finesInCoin 47 = .ok (.istore 6, 2) := by decide +kernel
theorem dX5_finesInCoin_49 : decode cX5_finesInCoin 49 = .ok (.aload_n 0, 1) := by decide +kernel
theorem dX5_finesInCoin_50 : decode cX5_finesInCoin 50 = .ok (.getfield 113, 3) := by decide +kernel
theorem dX5_finesInCoin_53 : decode cX5_finesInCoin 53 = .ok (.iconst 2, 1) := by decide +kernel
theorem dX5_finesInCoin_54 : decode cX5_finesInCoin 54 = .ok (.if_icmp .ne 8, 3) := by decide +kernel
theorem dX5_finesInCoin_57 : decode cX5_finesInCoin 57 = .ok (.iload 6, 2) := by decide +kernel
theorem dX5_finesInCoin_59 : decode cX5_finesInCoin 59 = .ok (.goto 5, 3) := by decide +kernel
theorem dX5_finesInCoin_62 : decode cX5_finesInCoin 62 = .ok (.iload 5, 2) := by decide +kernel
theorem dX5_finesInCoin_64 : decode cX5_finesInCoin 64 = .ok (.istore 7, 2) := by decide +kernel
theorem dX5_finesInCoin_66 : decode cX5_finesInCoin 66 = .ok (.aload_n 0, 1) := by decide +kernel
theorem dX5_finesInCoin_67 : decode cX5_finesInCoin 67 = .ok (.getfield 113, 3) := by decide +kernel
theorem dX5_finesInCoin_70 : decode cX5_finesInCoin 70 = .ok (.ifCond .ne 8, 3) := by decide +kernel
theorem dX5_finesInCoin_73 : decode cX5_finesInCoin 73 = .ok (.iload 5, 2) := by decide +kernel
theorem dX5_finesInCoin_75 : decode cX5_finesInCoin 75 = .ok (.goto 5, 3) := by decide +kernel
theorem dX5_finesInCoin_78 : decode cX5_finesInCoin 78 = .ok (.iload 6, 2) := by decide +kernel
theorem dX5_finesInCoin_80 : decode cX5_finesInCoin 80 = .ok (.istore 8, 2) := by decide +kernel
theorem dX5_finesInCoin_82 : decode cX5_finesInCoin 82 = .ok (.iconst 0, 1) := by decide +kernel
theorem dX5_finesInCoin_83 : decode cX5_finesInCoin 83 = .ok (.istore 9, 2) := by decide +kernel
theorem dX5_finesInCoin_85 : decode cX5_finesInCoin 85 = .ok (.iload 7, 2) := by decide +kernel
theorem dX5_finesInCoin_87 : decode cX5_finesInCoin 87 = .ok (.istore 10, 2) := by decide +kernel
theorem dX5_finesInCoin_89 : decode cX5_finesInCoin 89 = .ok (.iload 10, 2) := by decide +kernel
theorem dX5_finesInCoin_91 : decode cX5_finesInCoin 91 = .ok (.iload 8, 2) := by decide +kernel
theorem dX5_finesInCoin_93 : decode cX5_finesInCoin 93 = .ok (.if_icmp .gt 47, 3) := by decide +kernel
theorem dX5_finesInCoin_96 : decode cX5_finesInCoin 96 = .ok (.aload_n 1, 1) := by decide +kernel
theorem dX5_finesInCoin_97 : decode cX5_finesInCoin 97 = .ok (.iload 10, 2) := by decide +kernel
theorem dX5_finesInCoin_99 : decode cX5_finesInCoin 99 = .ok (.invokevirtual 163, 3) := by decide +kernel
theorem dX5_finesInCoin_102 : decode cX5_finesInCoin 102 = .ok (.iload 4, 2) := by decide +kernel
theorem dX5_finesInCoin_104 : decode cX5_finesInCoin 104 = .ok (.invokestatic 102, 3) := by decide +kernel
theorem dX5_finesInCoin_107 : decode cX5_finesInCoin 107 = .ok (.ifCond .ne 27, 3) := by decide +kernel
theorem dX5_finesInCoin_110 : decode cX5_finesInCoin 110 = .ok (.aload_n 1, 1) := by decide +kernel
theorem dX5_finesInCoin_111 : decode cX5_finesInCoin 111 = .ok (.iload 10, 2) := by decide +kernel
theorem dX5_finesInCoin_113 : decode cX5_finesInCoin 113 = .ok (.invokevirtual 397, 3) := by decide +kernel
theorem dX5_finesInCoin_116 : decode cX5_finesInCoin 116 = .ok (.iload_n 3, 1) := by decide +kernel
theorem dX5_finesInCoin_117 : decode cX5_finesInCoin 117 = .ok (.if_icmp .ne 17, 3) := by decide +kernel
theorem dX5_finesInCoin_120 : decode cX5_finesInCoin 120 = .ok (.iload 9, 2) := by decide +kernel
theorem dX5_finesInCoin_122 : decode cX5_finesInCoin 122 = .ok (.aload_n 0, 1) := by decide +kernel
theorem dX5_finesInCoin_123 : decode cX5_finesInCoin 123 = .ok (.getfield 12, 3) := by decide +kernel
theorem dX5_finesInCoin_126 : decode cX5_finesInCoin 126 = .ok (.iload 4, 2) := by decide +kernel
theorem dX5_finesInCoin_128 : decode cX5_finesInCoin 128 = .ok (.invokevirtual 96, 3) := by decide +kernel
theorem dX5_finesInCoin_131 : decode cX5_finesInCoin 131 = .ok (.iadd, 1) := by decide +kernel
theorem dX5_finesInCoin_132 : decode cX5_finesInCoin 132 = .ok (.istore 9, 2) := by decide +kernel
theorem dX5_finesInCoin_134 : decode cX5_finesInCoin 134 = .ok (.iinc 10 1, 3) := by decide +kernel
theorem dX5_finesInCoin_137 : decode cX5_finesInCoin 137 = .ok (.goto (-48), 3) := by decide +kernel
theorem dX5_finesInCoin_140 : decode cX5_finesInCoin 140 = .ok (.iload 9, 2) := by decide +kernel
theorem dX5_finesInCoin_142 : decode cX5_finesInCoin 142 = .ok (.ireturn, 1) := by decide +kernel
theorem dX5_daysAsSeen_0 : decode cX5_daysAsSeen 0 = .ok (.aload_n 0, 1) := by decide +kernel
theorem dX5_daysAsSeen_1 : decode cX5_daysAsSeen 1 = .ok (.invokevirtual 153, 3) := by decide +kernel
theorem dX5_daysAsSeen_4 : decode cX5_daysAsSeen 4 = .ok (.astore_n 1, 1) := by decide +kernel
theorem dX5_daysAsSeen_5 : decode cX5_daysAsSeen 5 = .ok (.ldc2_w 400, 3) := by decide +kernel
theorem dX5_daysAsSeen_8 : decode cX5_daysAsSeen 8 = .ok (.lstore_n 2, 1) := by decide +kernel
theorem dX5_daysAsSeen_9 : decode cX5_daysAsSeen 9 = .ok (.iconst 0, 1) := by decide +kernel
theorem dX5_daysAsSeen_10 : decode cX5_daysAsSeen 10 = .ok (.istore 4, 2) := by decide +kernel
theorem dX5_daysAsSeen_12 : decode cX5_daysAsSeen 12 = .ok (.iload 4, 2) := by decide +kernel
theorem dX5_daysAsSeen_14 : decode cX5_daysAsSeen 14 = .ok (.aload_n 0, 1) := by decide +kernel
theorem dX5_daysAsSeen_15 : decode cX5_daysAsSeen 15 = .ok (.getfield 37, 3) := by decide +kernel
theorem dX5_daysAsSeen_18 : decode cX5_daysAsSeen 18 = .ok (.invokevirtual 173, 3) := by decide +kernel
theorem dX5_daysAsSeen_21 : decode cX5_daysAsSeen 21 = .ok (.if_icmp .ge 72, 3) := by decide +kernel
theorem dX5_daysAsSeen_24 : decode cX5_daysAsSeen 24 = .ok (.aload_n 0, 1) := by decide +kernel
theorem dX5_daysAsSeen_25 : decode cX5_daysAsSeen 25 = .ok (.getfield 37, 3) := by decide +kernel
theorem dX5_daysAsSeen_28 : decode cX5_daysAsSeen 28 = .ok (.iload 4, 2) := by decide +kernel
theorem dX5_daysAsSeen_30 : decode cX5_daysAsSeen 30 = .ok (.invokevirtual 391, 3) := by decide +kernel
theorem dX5_daysAsSeen_33 : decode cX5_daysAsSeen 33 = .ok (.istore 5, 2) := by decide +kernel
theorem dX5_daysAsSeen_35 : decode cX5_daysAsSeen 35 = .ok (.aload_n 1, 1) := by decide +kernel
theorem dX5_daysAsSeen_36 : decode cX5_daysAsSeen 36 = .ok (.iload 5, 2) := by decide +kernel
theorem dX5_daysAsSeen_38 : decode cX5_daysAsSeen 38 = .ok (.invokevirtual 182, 3) := by decide +kernel
theorem dX5_daysAsSeen_41 : decode cX5_daysAsSeen 41 = .ok (.lstore 6, 2) := by decide +kernel
theorem dX5_daysAsSeen_43 : decode cX5_daysAsSeen 43 = .ok (.aload_n 0, 1) := by decide +kernel
theorem dX5_daysAsSeen_44 : decode cX5_daysAsSeen 44 = .ok (.getfield 12, 3) := by decide +kernel
theorem dX5_daysAsSeen_47 : decode cX5_daysAsSeen 47 = .ok (.iload 5, 2) := by decide +kernel
theorem dX5_daysAsSeen_49 : decode cX5_daysAsSeen 49 = .ok (.invokevirtual 92, 3) := by decide +kernel
theorem dX5_daysAsSeen_52 : decode cX5_daysAsSeen 52 = .ok (.ifCond .ne 8, 3) := by decide +kernel
theorem dX5_daysAsSeen_55 : decode cX5_daysAsSeen 55 = .ok (.lconst 0, 1) := by decide +kernel
theorem dX5_daysAsSeen_56 : decode cX5_daysAsSeen 56 = .ok (.lstore_n 2, 1) := by decide +kernel
theorem dX5_daysAsSeen_57 : decode cX5_daysAsSeen 57 = .ok (.goto 30, 3) := by decide +kernel
theorem dX5_daysAsSeen_60 : decode cX5_daysAsSeen 60 = .ok (.lload_n 2, 1) := by decide +kernel
theorem dX5_daysAsSeen_61 : decode cX5_daysAsSeen 61 = .ok (.aload_n 0, 1) := by decide +kernel
theorem dX5_daysAsSeen_62 : decode cX5_daysAsSeen 62 = .ok (.getfield 37, 3) := by decide +kernel
theorem dX5_daysAsSeen_65 : decode cX5_daysAsSeen 65 = .ok (.iload 4, 2) := by decide +kernel
theorem dX5_daysAsSeen_67 : decode cX5_daysAsSeen 67 = .ok (.invokevirtual 388, 3) := by decide +kernel
theorem dX5_daysAsSeen_70 : decode cX5_daysAsSeen 70 = .ok (.iconst 1, 1) := by decide +kernel
theorem dX5_daysAsSeen_71 : decode cX5_daysAsSeen 71 = .ok (.if_icmp .ne 8, 3) := by decide +kernel
theorem dX5_daysAsSeen_74 : decode cX5_daysAsSeen 74 = .ok (.lload 6, 2) := by decide +kernel
theorem dX5_daysAsSeen_76 : decode cX5_daysAsSeen 76 = .ok (.goto 9, 3) := by decide +kernel
theorem dX5_daysAsSeen_79 : decode cX5_daysAsSeen 79 = .ok (.lload 6, 2) := by decide +kernel
theorem dX5_daysAsSeen_81 : decode cX5_daysAsSeen 81 = .ok (.ldc2_w 402, 3) := by decide +kernel
theorem dX5_daysAsSeen_84 : decode cX5_daysAsSeen 84 = .ok (.lxor, 1) := by decide +kernel
theorem dX5_daysAsSeen_85 : decode cX5_daysAsSeen 85 = .ok (.land, 1) := by decide +kernel
theorem dX5_daysAsSeen_86 : decode cX5_daysAsSeen 86 = .ok (.lstore_n 2, 1) := by decide +kernel
theorem dX5_daysAsSeen_87 : decode cX5_daysAsSeen 87 = .ok (.iinc 4 1, 3) := by decide +kernel
theorem dX5_daysAsSeen_90 : decode cX5_daysAsSeen 90 = .ok (.goto (-78), 3) := by decide +kernel
theorem dX5_daysAsSeen_93 : decode cX5_daysAsSeen 93 = .ok (.lload_n 2, 1) := by decide +kernel
theorem dX5_daysAsSeen_94 : decode cX5_daysAsSeen 94 = .ok (.lreturn, 1) := by decide +kernel
theorem dX5_agreesWithBook_0 : decode cX5_agreesWithBook 0 = .ok (.iconst 0, 1) := by decide +kernel
theorem dX5_agreesWithBook_1 : decode cX5_agreesWithBook 1 = .ok (.istore_n 2, 1) := by decide +kernel
theorem dX5_agreesWithBook_2 : decode cX5_agreesWithBook 2 = .ok (.iload_n 2, 1) := by decide +kernel
theorem dX5_agreesWithBook_3 : decode cX5_agreesWithBook 3 = .ok (.aload_n 0, 1) := by decide +kernel
theorem dX5_agreesWithBook_4 : decode cX5_agreesWithBook 4 = .ok (.getfield 40, 3) := by decide +kernel
theorem dX5_agreesWithBook_7 : decode cX5_agreesWithBook 7 = .ok (.invokevirtual 173, 3) := by decide +kernel
theorem dX5_agreesWithBook_10 : decode cX5_agreesWithBook 10 = .ok (.if_icmp .ge 58, 3) := by decide +kernel
theorem dX5_agreesWithBook_13 : decode cX5_agreesWithBook 13 = .ok (.aload_n 0, 1) := by decide +kernel
theorem dX5_agreesWithBook_14 : decode cX5_agreesWithBook 14 = .ok (.getfield 40, 3) := by decide +kernel
theorem dX5_agreesWithBook_17 : decode cX5_agreesWithBook 17 = .ok (.iload_n 2, 1) := by decide +kernel
theorem dX5_agreesWithBook_18 : decode cX5_agreesWithBook 18 = .ok (.invokevirtual 388, 3) := by decide +kernel
theorem dX5_agreesWithBook_21 : decode cX5_agreesWithBook 21 = .ok (.istore_n 3, 1) := by decide +kernel
theorem dX5_agreesWithBook_22 : decode cX5_agreesWithBook 22 = .ok (.aload_n 0, 1) := by decide +kernel
theorem dX5_agreesWithBook_23 : decode cX5_agreesWithBook 23 = .ok (.getfield 12, 3) := by decide +kernel
theorem dX5_agreesWithBook_26 : decode cX5_agreesWithBook 26 = .ok (.iload_n 3, 1) := by decide +kernel
theorem dX5_agreesWithBook_27 : decode cX5_agreesWithBook 27 = .ok (.invokevirtual 92, 3) := by decide +kernel
theorem dX5_agreesWithBook_30 : decode cX5_agreesWithBook 30 = .ok (.ifCond .eq 30, 3) := by decide +kernel
theorem dX5_agreesWithBook_33 : decode cX5_agreesWithBook 33 = .ok (.aload_n 1, 1) := by decide +kernel
theorem dX5_agreesWithBook_34 : decode cX5_agreesWithBook 34 = .ok (.aload_n 0, 1) := by decide +kernel
theorem dX5_agreesWithBook_35 : decode cX5_agreesWithBook 35 = .ok (.getfield 40, 3) := by decide +kernel
theorem dX5_agreesWithBook_38 : decode cX5_agreesWithBook 38 = .ok (.iload_n 2, 1) := by decide +kernel
theorem dX5_agreesWithBook_39 : decode cX5_agreesWithBook 39 = .ok (.invokevirtual 391, 3) := by decide +kernel
theorem dX5_agreesWithBook_42 : decode cX5_agreesWithBook 42 = .ok (.invokevirtual 163, 3) := by decide +kernel
theorem dX5_agreesWithBook_45 : decode cX5_agreesWithBook 45 = .ok (.iload_n 3, 1) := by decide +kernel
theorem dX5_agreesWithBook_46 : decode cX5_agreesWithBook 46 = .ok (.invokestatic 102, 3) := by decide +kernel
theorem dX5_agreesWithBook_49 : decode cX5_agreesWithBook 49 = .ok (.aload_n 0, 1) := by decide +kernel
theorem dX5_agreesWithBook_50 : decode cX5_agreesWithBook 50 = .ok (.getfield 40, 3) := by decide +kernel
theorem dX5_agreesWithBook_53 : decode cX5_agreesWithBook 53 = .ok (.iload_n 2, 1) := by decide +kernel
theorem dX5_agreesWithBook_54 : decode cX5_agreesWithBook 54 = .ok (.invokevirtual 394, 3) := by decide +kernel
theorem dX5_agreesWithBook_57 : decode cX5_agreesWithBook 57 = .ok (.if_icmp .eq 5, 3) := by decide +kernel
theorem dX5_agreesWithBook_60 : decode cX5_agreesWithBook 60 = .ok (.iconst 0, 1) := by decide +kernel
theorem dX5_agreesWithBook_61 : decode cX5_agreesWithBook 61 = .ok (.ireturn, 1) := by decide +kernel
theorem dX5_agreesWithBook_62 : decode cX5_agreesWithBook 62 = .ok (.iinc 2 1, 3) := by decide +kernel
theorem dX5_agreesWithBook_65 : decode cX5_agreesWithBook 65 = .ok (.goto (-63), 3) := by decide +kernel
theorem dX5_agreesWithBook_68 : decode cX5_agreesWithBook 68 = .ok (.iconst 1, 1) := by decide +kernel
theorem dX5_agreesWithBook_69 : decode cX5_agreesWithBook 69 = .ok (.ireturn, 1) := by decide +kernel
theorem dX5_bit_0 : decode cX5_bit 0 = .ok (.iload_n 0, 1) := by decide +kernel
theorem dX5_bit_1 : decode cX5_bit 1 = .ok (.iload_n 1, 1) := by decide +kernel
theorem dX5_bit_2 : decode cX5_bit 2 = .ok (.iushr, 1) := by decide +kernel
theorem dX5_bit_3 : decode cX5_bit 3 = .ok (.iconst 1, 1) := by decide +kernel
theorem dX5_bit_4 : decode cX5_bit 4 = .ok (.iand, 1) := by decide +kernel
theorem dX5_bit_5 : decode cX5_bit 5 = .ok (.ireturn, 1) := by decide +kernel
theorem dX5_holdsDay_0 : decode cX5_holdsDay 0 = .ok (.lload_n 0, 1) := by decide +kernel
theorem dX5_holdsDay_1 : decode cX5_holdsDay 1 = .ok (.iload_n 2, 1) := by decide +kernel
theorem dX5_holdsDay_2 : decode cX5_holdsDay 2 = .ok (.lushr, 1) := by decide +kernel
theorem dX5_holdsDay_3 : decode cX5_holdsDay 3 = .ok (.lconst 1, 1) := by decide +kernel
theorem dX5_holdsDay_4 : decode cX5_holdsDay 4 = .ok (.land, 1) := by decide +kernel
theorem dX5_holdsDay_5 : decode cX5_holdsDay 5 = .ok (.lconst 1, 1) := by decide +kernel
theorem dX5_holdsDay_6 : decode cX5_holdsDay 6 = .ok (.lcmp, 1) := by decide +kernel
theorem dX5_holdsDay_7 : decode cX5_holdsDay 7 = .ok (.ifCond .ne 7, 3) := by decide +kernel
theorem dX5_holdsDay_10 : decode cX5_holdsDay 10 = .ok (.iconst 1, 1) := by decide +kernel
theorem dX5_holdsDay_11 : decode cX5_holdsDay 11 = .ok (.goto 4, 3) := by decide +kernel
theorem dX5_holdsDay_14 : decode cX5_holdsDay 14 = .ok (.iconst 0, 1) := by decide +kernel
theorem dX5_holdsDay_15 : decode cX5_holdsDay 15 = .ok (.ireturn, 1) := by decide +kernel
theorem dX5_firstDay_0 : decode cX5_firstDay 0 = .ok (.iload_n 2, 1) := by decide +kernel
theorem dX5_firstDay_1 : decode cX5_firstDay 1 = .ok (.istore_n 3, 1) := by decide +kernel
theorem dX5_firstDay_2 : decode cX5_firstDay 2 = .ok (.iload_n 3, 1) := by decide +kernel
theorem dX5_firstDay_3 : decode cX5_firstDay 3 = .ok (.bipush 40, 2) := by decide +kernel
theorem dX5_firstDay_5 : decode cX5_firstDay 5 = .ok (.if_icmp .ge 19, 3) := by decide +kernel
theorem dX5_firstDay_8 : decode cX5_firstDay 8 = .ok (.lload_n 0, 1) := by decide +kernel
theorem dX5_firstDay_9 : decode cX5_firstDay 9 = .ok (.iload_n 3, 1) := by decide +kernel
theorem dX5_firstDay_10 : decode cX5_firstDay 10 = .ok (.invokestatic 404, 3) := by decide +kernel
theorem dX5_firstDay_13 : decode cX5_firstDay 13 = .ok (.ifCond .eq 5, 3) := by decide +kernel
theorem dX5_firstDay_16 : decode cX5_firstDay 16 = .ok (.iload_n 3, 1) := by decide +kernel
theorem dX5_firstDay_17 : decode cX5_firstDay 17 = .ok (.ireturn, 1) := by decide +kernel
theorem dX5_firstDay_18 : decode cX5_firstDay 18 = .ok (.iinc 3 1, 3) := by decide +kernel
theorem dX5_firstDay_21 : decode cX5_firstDay 21 = .ok (.goto (-19), 3) := by decide +kernel
theorem dX5_firstDay_24 : decode cX5_firstDay 24 = .ok (.iconst (-1), 1) := by decide +kernel
theorem dX5_firstDay_25 : decode cX5_firstDay 25 = .ok (.ireturn, 1) := by decide +kernel
theorem dX5_dayInOrder_0 : decode cX5_dayInOrder 0 = .ok (.iconst 0, 1) := by decide +kernel
theorem dX5_dayInOrder_1 : decode cX5_dayInOrder 1 = .ok (.istore_n 3, 1) := by decide +kernel
theorem dX5_dayInOrder_2 : decode cX5_dayInOrder 2 = .ok (.iconst 0, 1) := by decide +kernel
theorem dX5_dayInOrder_3 : decode cX5_dayInOrder 3 = .ok (.istore 4, 2) := by decide +kernel
theorem dX5_dayInOrder_5 : decode cX5_dayInOrder 5 = .ok (.iload 4, 2) := by decide +kernel
theorem dX5_dayInOrder_7 : decode cX5_dayInOrder 7 = .ok (.bipush 40, 2) := by decide +kernel
theorem dX5_dayInOrder_9 : decode cX5_dayInOrder 9 = .ok (.if_icmp .ge 29, 3) := by decide +kernel
theorem dX5_dayInOrder_12 : decode cX5_dayInOrder 12 = .ok (.lload_n 0, 1) := by decide +kernel
theorem dX5_dayInOrder_13 : decode cX5_dayInOrder 13 = .ok (.iload 4, 2) := by decide +kernel
theorem dX5_dayInOrder_15 : decode cX5_dayInOrder 15 = .ok (.invokestatic 404, 3) := by decide +kernel
theorem dX5_dayInOrder_18 : decode cX5_dayInOrder 18 = .ok (.ifCond .eq 14, 3) := by decide +kernel
theorem dX5_dayInOrder_21 : decode cX5_dayInOrder 21 = .ok (.iload_n 3, 1) := by decide +kernel
theorem dX5_dayInOrder_22 : decode cX5_dayInOrder 22 = .ok (.iload_n 2, 1) := by decide +kernel
theorem dX5_dayInOrder_23 : decode cX5_dayInOrder 23 = .ok (.if_icmp .ne 6, 3) := by decide +kernel
theorem dX5_dayInOrder_26 : decode cX5_dayInOrder 26 = .ok (.iload 4, 2) := by decide +kernel
theorem dX5_dayInOrder_28 : decode cX5_dayInOrder 28 = .ok (.ireturn, 1) := by decide +kernel
theorem dX5_dayInOrder_29 : decode cX5_dayInOrder 29 = .ok (.iinc 3 1, 3) := by decide +kernel
theorem dX5_dayInOrder_32 : decode cX5_dayInOrder 32 = .ok (.iinc 4 1, 3) := by decide +kernel
theorem dX5_dayInOrder_35 : decode cX5_dayInOrder 35 = .ok (.goto (-30), 3) := by decide +kernel
theorem dX5_dayInOrder_38 : decode cX5_dayInOrder 38 = .ok (.iconst (-1), 1) := by decide +kernel
theorem dX5_dayInOrder_39 : decode cX5_dayInOrder 39 = .ok (.ireturn, 1) := by decide +kernel
theorem dX5_closedDays_0 : decode cX5_closedDays 0 = .ok (.iconst 0, 1) := by decide +kernel
theorem dX5_closedDays_1 : decode cX5_closedDays 1 = .ok (.istore 4, 2) := by decide +kernel
theorem dX5_closedDays_3 : decode cX5_closedDays 3 = .ok (.iload_n 2, 1) := by decide +kernel
theorem dX5_closedDays_4 : decode cX5_closedDays 4 = .ok (.istore 5, 2) := by decide +kernel
theorem dX5_closedDays_6 : decode cX5_closedDays 6 = .ok (.iload 5, 2) := by decide +kernel
theorem dX5_closedDays_8 : decode cX5_closedDays 8 = .ok (.iload_n 2, 1) := by decide +kernel
theorem dX5_closedDays_9 : decode cX5_closedDays 9 = .ok (.iload_n 3, 1) := by decide +kernel
theorem dX5_closedDays_10 : decode cX5_closedDays 10 = .ok (.iadd, 1) := by decide +kernel
theorem dX5_closedDays_11 : decode cX5_closedDays 11 = .ok (.if_icmp .ge 21, 3) := by decide +kernel
theorem dX5_closedDays_14 : decode cX5_closedDays 14 = .ok (.lload_n 0, 1) := by decide +kernel
theorem dX5_closedDays_15 : decode cX5_closedDays 15 = .ok (.iload 5, 2) := by decide +kernel
theorem dX5_closedDays_17 : decode cX5_closedDays 17 = .ok (.invokestatic 404, 3) := by decide +kernel
theorem dX5_closedDays_20 : decode cX5_closedDays 20 = .ok (.ifCond .ne 6, 3) := by decide +kernel
theorem dX5_closedDays_23 : decode cX5_closedDays 23 = .ok (.iinc 4 1, 3) := by decide +kernel
theorem dX5_closedDays_26 : decode cX5_closedDays 26 = .ok (.iinc 5 1, 3) := by decide +kernel
theorem dX5_closedDays_29 : decode cX5_closedDays 29 = .ok (.goto (-23), 3) := by decide +kernel
theorem dX5_closedDays_32 : decode cX5_closedDays 32 = .ok (.iload 4, 2) := by decide +kernel
theorem dX5_closedDays_34 : decode cX5_closedDays 34 = .ok (.ireturn, 1) := by decide +kernel
theorem dX5_inLowestTerms_0 : decode cX5_inLowestTerms 0 = .ok (.lload_n 0, 1) := by decide +kernel
theorem dX5_inLowestTerms_1 : decode cX5_inLowestTerms 1 = .ok (.lstore 5, 2) := by decide +kernel
theorem dX5_inLowestTerms_3 : decode cX5_inLowestTerms 3 = .ok (.lload_n 2, 1) := by decide +kernel
theorem dX5_inLowestTerms_4 : decode cX5_inLowestTerms 4 = .ok (.lstore 7, 2) := by decide +kernel
theorem dX5_inLowestTerms_6 : decode cX5_inLowestTerms 6 = .ok (.iconst 0, 1) := by decide +kernel
theorem dX5_inLowestTerms_7 : decode cX5_inLowestTerms 7 = .ok (.istore 9, 2) := by decide +kernel
theorem dX5_inLowestTerms_9 : decode cX5_inLowestTerms 9 = .ok (.iload 9, 2) := by decide +kernel
theorem dX5_inLowestTerms_11 : decode cX5_inLowestTerms 11 = .ok (.bipush 62, 2) := by decide +kernel
theorem dX5_inLowestTerms_13 : decode cX5_inLowestTerms 13 = .ok (.if_icmp .ge 39, 3) := by decide +kernel
theorem dX5_inLowestTerms_16 : decode cX5_inLowestTerms 16 = .ok (.lload 5, 2) := by decide +kernel
theorem dX5_inLowestTerms_18 : decode cX5_inLowestTerms 18 = .ok (.lconst 1, 1) := by decide +kernel
theorem dX5_inLowestTerms_19 : decode cX5_inLowestTerms 19 = .ok (.land, 1) := by decide +kernel
theorem dX5_inLowestTerms_20 : decode cX5_inLowestTerms 20 = .ok (.lconst 0, 1) := by decide +kernel
theorem dX5_inLowestTerms_21 : decode cX5_inLowestTerms 21 = .ok (.lcmp, 1) := by decide +kernel
theorem dX5_inLowestTerms_22 : decode cX5_inLowestTerms 22 = .ok (.ifCond .ne 30, 3) := by decide +kernel
theorem dX5_inLowestTerms_25 : decode cX5_inLowestTerms 25 = .ok (.lload 7, 2) := by decide +kernel
theorem dX5_inLowestTerms_27 : decode cX5_inLowestTerms 27 = .ok (.lconst 1, 1) := by decide +kernel
theorem dX5_inLowestTerms_28 : decode cX5_inLowestTerms 28 = .ok (.land, 1) := by decide +kernel
theorem dX5_inLowestTerms_29 : decode cX5_inLowestTerms 29 = .ok (.lconst 0, 1) := by decide +kernel
theorem dX5_inLowestTerms_30 : decode cX5_inLowestTerms 30 = .ok (.lcmp, 1) := by decide +kernel
theorem dX5_inLowestTerms_31 : decode cX5_inLowestTerms 31 = .ok (.ifCond .ne 21, 3) := by decide +kernel
theorem dX5_inLowestTerms_34 : decode cX5_inLowestTerms 34 = .ok (.lload 5, 2) := by decide +kernel
theorem dX5_inLowestTerms_36 : decode cX5_inLowestTerms 36 = .ok (.iconst 1, 1) := by decide +kernel
theorem dX5_inLowestTerms_37 : decode cX5_inLowestTerms 37 = .ok (.lshr, 1) := by decide +kernel
theorem dX5_inLowestTerms_38 : decode cX5_inLowestTerms 38 = .ok (.lstore 5, 2) := by decide +kernel
theorem dX5_inLowestTerms_40 : decode cX5_inLowestTerms 40 = .ok (.lload 7, 2) := by decide +kernel
theorem dX5_inLowestTerms_42 : decode cX5_inLowestTerms 42 = .ok (.iconst 1, 1) := by decide +kernel
theorem dX5_inLowestTerms_43 : decode cX5_inLowestTerms 43 = .ok (.lshr, 1) := by decide +kernel
theorem dX5_inLowestTerms_44 : decode cX5_inLowestTerms 44 = .ok (.lstore 7, 2) := by decide +kernel
theorem dX5_inLowestTerms_46 : decode cX5_inLowestTerms 46 = .ok (.iinc 9 1, 3) := by decide +kernel
theorem dX5_inLowestTerms_49 : decode cX5_inLowestTerms 49 = .ok (.goto (-40), 3) := by decide +kernel
theorem dX5_inLowestTerms_52 : decode cX5_inLowestTerms 52 = .ok (.iload 4, 2) := by decide +kernel
theorem dX5_inLowestTerms_54 : decode cX5_inLowestTerms 54 = .ok (.ifCond .ne 8, 3) := by decide +kernel
theorem dX5_inLowestTerms_57 : decode cX5_inLowestTerms 57 = .ok (.lload 5, 2) := by decide +kernel
theorem dX5_inLowestTerms_59 : decode cX5_inLowestTerms 59 = .ok (.goto 5, 3) := by decide +kernel
theorem dX5_inLowestTerms_62 : decode cX5_inLowestTerms 62 = .ok (.lload 7, 2) := by decide +kernel
theorem dX5_inLowestTerms_64 : decode cX5_inLowestTerms 64 = .ok (.lreturn, 1) := by decide +kernel
theorem dJ6_bitCount_0f7a4_0 : decode cJ6_bitCount_0f7a4 0 = .ok (.iload_n 0, 1) := by decide +kernel
theorem dJ6_bitCount_0f7a4_1 : decode cJ6_bitCount_0f7a4 1 = .ok (.iload_n 0, 1) := by decide +kernel
theorem dJ6_bitCount_0f7a4_2 : decode cJ6_bitCount_0f7a4 2 = .ok (.iconst 1, 1) := by decide +kernel
theorem dJ6_bitCount_0f7a4_3 : decode cJ6_bitCount_0f7a4 3 = .ok (.iushr, 1) := by decide +kernel
theorem dJ6_bitCount_0f7a4_4 : decode cJ6_bitCount_0f7a4 4 = .ok (.ldc_w 265, 3) := by decide +kernel
theorem dJ6_bitCount_0f7a4_7 : decode cJ6_bitCount_0f7a4 7 = .ok (.iand, 1) := by decide +kernel
theorem dJ6_bitCount_0f7a4_8 : decode cJ6_bitCount_0f7a4 8 = .ok (.isub, 1) := by decide +kernel
theorem dJ6_bitCount_0f7a4_9 : decode cJ6_bitCount_0f7a4 9 = .ok (.istore_n 0, 1) := by decide +kernel
theorem dJ6_bitCount_0f7a4_10 : decode cJ6_bitCount_0f7a4 10 = .ok (.iload_n 0, 1) := by decide +kernel
theorem dJ6_bitCount_0f7a4_11 : decode cJ6_bitCount_0f7a4 11 = .ok (.ldc_w 266, 3) := by decide +kernel
theorem dJ6_bitCount_0f7a4_14 : decode cJ6_bitCount_0f7a4 14 = .ok (.iand, 1) := by decide +kernel
theorem dJ6_bitCount_0f7a4_15 : decode cJ6_bitCount_0f7a4 15 = .ok (.iload_n 0, 1) := by decide +kernel
theorem dJ6_bitCount_0f7a4_16 : decode cJ6_bitCount_0f7a4 16 = .ok (.iconst 2, 1) := by decide +kernel
theorem dJ6_bitCount_0f7a4_17 : decode cJ6_bitCount_0f7a4 17 = .ok (.iushr, 1) := by decide +kernel
theorem dJ6_bitCount_0f7a4_18 : decode cJ6_bitCount_0f7a4 18 = .ok (.ldc_w 266, 3) := by decide +kernel
theorem dJ6_bitCount_0f7a4_21 : decode cJ6_bitCount_0f7a4 21 = .ok (.iand, 1) := by decide +kernel
theorem dJ6_bitCount_0f7a4_22 : decode cJ6_bitCount_0f7a4 22 = .ok (.iadd, 1) := by decide +kernel
theorem dJ6_bitCount_0f7a4_23 : decode cJ6_bitCount_0f7a4 23 = .ok (.istore_n 0, 1) := by decide +kernel
theorem dJ6_bitCount_0f7a4_24 : decode cJ6_bitCount_0f7a4 24 = .ok (.iload_n 0, 1) := by decide +kernel
theorem dJ6_bitCount_0f7a4_25 : decode cJ6_bitCount_0f7a4 25 = .ok (.iload_n 0, 1) := by decide +kernel
theorem dJ6_bitCount_0f7a4_26 : decode cJ6_bitCount_0f7a4 26 = .ok (.iconst 4, 1) := by decide +kernel
theorem dJ6_bitCount_0f7a4_27 : decode cJ6_bitCount_0f7a4 27 = .ok (.iushr, 1) := by decide +kernel
theorem dJ6_bitCount_0f7a4_28 : decode cJ6_bitCount_0f7a4 28 = .ok (.iadd, 1) := by decide +kernel
theorem dJ6_bitCount_0f7a4_29 : decode cJ6_bitCount_0f7a4 29 = .ok (.ldc_w 267, 3) := by decide +kernel
theorem dJ6_bitCount_0f7a4_32 : decode cJ6_bitCount_0f7a4 32 = .ok (.iand, 1) := by decide +kernel
theorem dJ6_bitCount_0f7a4_33 : decode cJ6_bitCount_0f7a4 33 = .ok (.istore_n 0, 1) := by decide +kernel
theorem dJ6_bitCount_0f7a4_34 : decode cJ6_bitCount_0f7a4 34 = .ok (.iload_n 0, 1) := by decide +kernel
theorem dJ6_bitCount_0f7a4_35 : decode cJ6_bitCount_0f7a4 35 = .ok (.iload_n 0, 1) := by decide +kernel
theorem dJ6_bitCount_0f7a4_36 : decode cJ6_bitCount_0f7a4 36 = .ok (.bipush 8, 2) := by decide +kernel
theorem dJ6_bitCount_0f7a4_38 : decode cJ6_bitCount_0f7a4 38 = .ok (.iushr, 1) := by decide +kernel
theorem dJ6_bitCount_0f7a4_39 : decode cJ6_bitCount_0f7a4 39 = .ok (.iadd, 1) := by decide +kernel
theorem dJ6_bitCount_0f7a4_40 : decode cJ6_bitCount_0f7a4 40 = .ok (.istore_n 0, 1) := by decide +kernel
theorem dJ6_bitCount_0f7a4_41 : decode cJ6_bitCount_0f7a4 41 = .ok (.iload_n 0, 1) := by decide +kernel
theorem dJ6_bitCount_0f7a4_42 : decode cJ6_bitCount_0f7a4 42 = .ok (.iload_n 0, 1) := by decide +kernel
theorem dJ6_bitCount_0f7a4_43 : decode cJ6_bitCount_0f7a4 43 = .ok (.bipush 16, 2) := by decide +kernel
theorem dJ6_bitCount_0f7a4_45 : decode cJ6_bitCount_0f7a4 45 = .ok (.iushr, 1) := by decide +kernel
theorem dJ6_bitCount_0f7a4_46 : decode cJ6_bitCount_0f7a4 46 = .ok (.iadd, 1) := by decide +kernel
theorem dJ6_bitCount_0f7a4_47 : decode cJ6_bitCount_0f7a4 47 = .ok (.istore_n 0, 1) := by decide +kernel
theorem dJ6_bitCount_0f7a4_48 : decode cJ6_bitCount_0f7a4 48 = .ok (.iload_n 0, 1) := by decide +kernel
theorem dJ6_bitCount_0f7a4_49 : decode cJ6_bitCount_0f7a4 49 = .ok (.bipush 63, 2) := by decide +kernel
theorem dJ6_bitCount_0f7a4_51 : decode cJ6_bitCount_0f7a4 51 = .ok (.iand, 1) := by decide +kernel
theorem dJ6_bitCount_0f7a4_52 : decode cJ6_bitCount_0f7a4 52 = .ok (.ireturn, 1) := by decide +kernel
theorem dJ13_bitCount_95d88_0 : decode cJ13_bitCount_95d88 0 = .ok (.lload_n 0, 1) := by decide +kernel
theorem dJ13_bitCount_95d88_1 : decode cJ13_bitCount_95d88 1 = .ok (.lload_n 0, 1) := by decide +kernel
theorem dJ13_bitCount_95d88_2 : decode cJ13_bitCount_95d88 2 = .ok (.iconst 1, 1) := by decide +kernel
theorem dJ13_bitCount_95d88_3 : decode cJ13_bitCount_95d88 3 = .ok (.lushr, 1) := by decide +kernel
theorem dJ13_bitCount_95d88_4 : decode cJ13_bitCount_95d88 4 = .ok (.ldc2_w 314, 3) := by decide +kernel
theorem dJ13_bitCount_95d88_7 : decode cJ13_bitCount_95d88 7 = .ok (.land, 1) := by decide +kernel
theorem dJ13_bitCount_95d88_8 : decode cJ13_bitCount_95d88 8 = .ok (.lsub, 1) := by decide +kernel
theorem dJ13_bitCount_95d88_9 : decode cJ13_bitCount_95d88 9 = .ok (.lstore_n 0, 1) := by decide +kernel
theorem dJ13_bitCount_95d88_10 : decode cJ13_bitCount_95d88 10 = .ok (.lload_n 0, 1) := by decide +kernel
theorem dJ13_bitCount_95d88_11 : decode cJ13_bitCount_95d88 11 = .ok (.ldc2_w 316, 3) := by decide +kernel
theorem dJ13_bitCount_95d88_14 : decode cJ13_bitCount_95d88 14 = .ok (.land, 1) := by decide +kernel
theorem dJ13_bitCount_95d88_15 : decode cJ13_bitCount_95d88 15 = .ok (.lload_n 0, 1) := by decide +kernel
theorem dJ13_bitCount_95d88_16 : decode cJ13_bitCount_95d88 16 = .ok (.iconst 2, 1) := by decide +kernel
theorem dJ13_bitCount_95d88_17 : decode cJ13_bitCount_95d88 17 = .ok (.lushr, 1) := by decide +kernel
theorem dJ13_bitCount_95d88_18 : decode cJ13_bitCount_95d88 18 = .ok (.ldc2_w 316, 3) := by decide +kernel
theorem dJ13_bitCount_95d88_21 : decode cJ13_bitCount_95d88 21 = .ok (.land, 1) := by decide +kernel
theorem dJ13_bitCount_95d88_22 : decode cJ13_bitCount_95d88 22 = .ok (.ladd, 1) := by decide +kernel
theorem dJ13_bitCount_95d88_23 : decode cJ13_bitCount_95d88 23 = .ok (.lstore_n 0, 1) := by decide +kernel
theorem dJ13_bitCount_95d88_24 : decode cJ13_bitCount_95d88 24 = .ok (.lload_n 0, 1) := by decide +kernel
theorem dJ13_bitCount_95d88_25 : decode cJ13_bitCount_95d88 25 = .ok (.lload_n 0, 1) := by decide +kernel
theorem dJ13_bitCount_95d88_26 : decode cJ13_bitCount_95d88 26 = .ok (.iconst 4, 1) := by decide +kernel
theorem dJ13_bitCount_95d88_27 : decode cJ13_bitCount_95d88 27 = .ok (.lushr, 1) := by decide +kernel
theorem dJ13_bitCount_95d88_28 : decode cJ13_bitCount_95d88 28 = .ok (.ladd, 1) := by decide +kernel
theorem dJ13_bitCount_95d88_29 : decode cJ13_bitCount_95d88 29 = .ok (.ldc2_w 318, 3) := by decide +kernel
theorem dJ13_bitCount_95d88_32 : decode cJ13_bitCount_95d88 32 = .ok (.land, 1) := by decide +kernel
theorem dJ13_bitCount_95d88_33 : decode cJ13_bitCount_95d88 33 = .ok (.lstore_n 0, 1) := by decide +kernel
theorem dJ13_bitCount_95d88_34 : decode cJ13_bitCount_95d88 34 = .ok (.lload_n 0, 1) := by decide +kernel
theorem dJ13_bitCount_95d88_35 : decode cJ13_bitCount_95d88 35 = .ok (.lload_n 0, 1) := by decide +kernel
theorem dJ13_bitCount_95d88_36 : decode cJ13_bitCount_95d88 36 = .ok (.bipush 8, 2) := by decide +kernel
theorem dJ13_bitCount_95d88_38 : decode cJ13_bitCount_95d88 38 = .ok (.lushr, 1) := by decide +kernel
theorem dJ13_bitCount_95d88_39 : decode cJ13_bitCount_95d88 39 = .ok (.ladd, 1) := by decide +kernel
theorem dJ13_bitCount_95d88_40 : decode cJ13_bitCount_95d88 40 = .ok (.lstore_n 0, 1) := by decide +kernel
theorem dJ13_bitCount_95d88_41 : decode cJ13_bitCount_95d88 41 = .ok (.lload_n 0, 1) := by decide +kernel
theorem dJ13_bitCount_95d88_42 : decode cJ13_bitCount_95d88 42 = .ok (.lload_n 0, 1) := by decide +kernel
theorem dJ13_bitCount_95d88_43 : decode cJ13_bitCount_95d88 43 = .ok (.bipush 16, 2) := by decide +kernel
theorem dJ13_bitCount_95d88_45 : decode cJ13_bitCount_95d88 45 = .ok (.lushr, 1) := by decide +kernel
theorem dJ13_bitCount_95d88_46 : decode cJ13_bitCount_95d88 46 = .ok (.ladd, 1) := by decide +kernel
theorem dJ13_bitCount_95d88_47 : decode cJ13_bitCount_95d88 47 = .ok (.lstore_n 0, 1) := by decide +kernel
theorem dJ13_bitCount_95d88_48 : decode cJ13_bitCount_95d88 48 = .ok (.lload_n 0, 1) := by decide +kernel
theorem dJ13_bitCount_95d88_49 : decode cJ13_bitCount_95d88 49 = .ok (.lload_n 0, 1) := by decide +kernel
theorem dJ13_bitCount_95d88_50 : decode cJ13_bitCount_95d88 50 = .ok (.bipush 32, 2) := by decide +kernel
theorem dJ13_bitCount_95d88_52 : decode cJ13_bitCount_95d88 52 = .ok (.lushr, 1) := by decide +kernel
theorem dJ13_bitCount_95d88_53 : decode cJ13_bitCount_95d88 53 = .ok (.ladd, 1) := by decide +kernel
theorem dJ13_bitCount_95d88_54 : decode cJ13_bitCount_95d88 54 = .ok (.lstore_n 0, 1) := by decide +kernel
theorem dJ13_bitCount_95d88_55 : decode cJ13_bitCount_95d88 55 = .ok (.lload_n 0, 1) := by decide +kernel
theorem dJ13_bitCount_95d88_56 : decode cJ13_bitCount_95d88 56 = .ok (.l2i, 1) := by decide +kernel
theorem dJ13_bitCount_95d88_57 : decode cJ13_bitCount_95d88 57 = .ok (.bipush 127, 2) := by decide +kernel
theorem dJ13_bitCount_95d88_59 : decode cJ13_bitCount_95d88 59 = .ok (.iand, 1) := by decide +kernel
theorem dJ13_bitCount_95d88_60 : decode cJ13_bitCount_95d88 60 = .ok (.ireturn, 1) := by decide +kernel
theorem dJ9_max_7cf53_0 : decode cJ9_max_7cf53 0 = .ok (.iload_n 0, 1) := by decide +kernel
theorem dJ9_max_7cf53_1 : decode cJ9_max_7cf53 1 = .ok (.iload_n 1, 1) := by decide +kernel
theorem dJ9_max_7cf53_2 : decode cJ9_max_7cf53 2 = .ok (.if_icmp .lt 7, 3) := by decide +kernel
theorem dJ9_max_7cf53_5 : decode cJ9_max_7cf53 5 = .ok (.iload_n 0, 1) := by decide +kernel
theorem dJ9_max_7cf53_6 : decode cJ9_max_7cf53 6 = .ok (.goto 4, 3) := by decide +kernel
theorem dJ9_max_7cf53_9 : decode cJ9_max_7cf53 9 = .ok (.iload_n 1, 1) := by decide +kernel
theorem dJ9_max_7cf53_10 : decode cJ9_max_7cf53 10 = .ok (.ireturn, 1) := by decide +kernel
theorem dJ9_min_7cf53_0 : decode cJ9_min_7cf53 0 = .ok (.iload_n 0, 1) := by decide +kernel
theorem dJ9_min_7cf53_1 : decode cJ9_min_7cf53 1 = .ok (.iload_n 1, 1) := by decide +kernel
theorem dJ9_min_7cf53_2 : decode cJ9_min_7cf53 2 = .ok (.if_icmp .gt 7, 3) := by decide +kernel
theorem dJ9_min_7cf53_5 : decode cJ9_min_7cf53 5 = .ok (.iload_n 0, 1) := by decide +kernel
theorem dJ9_min_7cf53_6 : decode cJ9_min_7cf53 6 = .ok (.goto 4, 3) := by decide +kernel
theorem dJ9_min_7cf53_9 : decode cJ9_min_7cf53 9 = .ok (.iload_n 1, 1) := by decide +kernel
theorem dJ9_min_7cf53_10 : decode cJ9_min_7cf53 10 = .ok (.ireturn, 1) := by decide +kernel
end
section
theorem dX6_init_0 : decode cX6_init 0 = .ok (.aload_n 0, 1) := by decide +kernel
theorem dX6_init_1 : decode cX6_init 1 = .ok (.invokespecial 1, 3) := by decide +kernel
theorem dX6_init_4 : decode cX6_init 4 = .ok (.aload_n 0, 1) := by decide +kernel
theorem dX6_init_5 : decode cX6_init 5 = .ok (.bipush 23, 2) := by decide +kernel
theorem dX6_init_7 : decode cX6_init 7 = .ok (.newarray .int, 2) := by decide +kernel
theorem dX6_init_9 : decode cX6_init 9 = .ok (.putfield 7, 3) := by decide +kernel
theorem dX6_init_12 : decode cX6_init 12 = .ok (.aload_n 0, 1) := by decide +kernel
theorem dX6_init_13 : decode cX6_init 13 = .ok (.bipush 9, 2) := by decide +kernel
theorem dX6_init_15 : decode cX6_init 15 = .ok (.newarray .int, 2) := by decide +kernel
theorem dX6_init_17 : decode cX6_init 17 = .ok (.putfield 13, 3) := by decide +kernel
theorem dX6_init_20 : decode cX6_init 20 = .ok (.aload_n 0, 1) := by decide +kernel
theorem dX6_init_21 : decode cX6_init 21 = .ok (.iconst 5, 1) := by decide +kernel
theorem dX6_init_22 : decode cX6_init 22 = .ok (.newarray .int, 2) := by decide +kernel
theorem dX6_init_24 : decode cX6_init 24 = .ok (.putfield 16, 3) := by decide +kernel
theorem dX6_init_27 : decode cX6_init 27 = .ok (.aload_n 0, 1) := by decide +kernel
theorem dX6_init_28 : decode cX6_init 28 = .ok (.bipush 8, 2) := by decide +kernel
theorem dX6_init_30 : decode cX6_init 30 = .ok (.newarray .int, 2) := by decide +kernel
theorem dX6_init_32 : decode cX6_init 32 = .ok (.putfield 19, 3) := by decide +kernel
theorem dX6_init_35 : decode cX6_init 35 = .ok (.aload_n 0, 1) := by decide +kernel
theorem dX6_init_36 : decode cX6_init 36 = .ok (.bipush 8, 2) := by decide +kernel
theorem dX6_init_38 : decode cX6_init 38 = .ok (.newarray .int, 2) := by decide +kernel
theorem dX6_init_40 : decode cX6_init 40 = .ok (.putfield 22, 3) := by decide +kernel
theorem dX6_init_43 : decode cX6_init 43 = .ok (.aload_n 0, 1) := by decide +kernel
theorem dX6_init_44 : decode cX6_init 44 = .ok (.iconst 4, 1) := by decide +kernel
theorem dX6_init_45 : decode cX6_init 45 = .ok (.newarray .int, 2) := by decide +kernel
theorem dX6_init_47 : decode cX6_init 47 = .ok (.putfield 25, 3) := by decide +kernel
theorem dX6_init_50 : decode cX6_init 50 = .ok (.aload_n 0, 1) := by decide +kernel
theorem dX6_init_51 : decode cX6_init 51 = .ok (.bipush 10, 2) := by decide +kernel
theorem dX6_init_53 : decode cX6_init 53 = .ok (.newarray .int, 2) := by decide +kernel
theorem dX6_init_55 : decode cX6_init 55 = .ok (.putfield 28, 3) := by decide +kernel
theorem dX6_init_58 : decode cX6_init 58 = .ok (.aload_n 0, 1) := by decide +kernel
theorem dX6_init_59 : decode cX6_init 59 = .ok (.bipush 10, 2) := by decide +kernel
theorem dX6_init_61 : decode cX6_init 61 = .ok (.newarray .int, 2) := by decide +kernel
theorem dX6_init_63 : decode cX6_init 63 = .ok (.putfield 31, 3) := by decide +kernel
theorem dX6_init_66 : decode cX6_init 66 = .ok (.aload_n 0, 1) := by decide +kernel
theorem dX6_init_67 : decode cX6_init 67 = .ok (.bipush 12, 2) := by decide +kernel
theorem dX6_init_69 : decode cX6_init 69 = .ok (.newarray .int, 2) := by decide +kernel
theorem dX6_init_71 : decode cX6_init 71 = .ok (.putfield 34, 3) := by decide +kernel
theorem dX6_init_74 : decode cX6_init 74 = .ok (.aload_n 0, 1) := by decide +kernel
theorem dX6_init_75 : decode cX6_init 75 = .ok (.bipush 12, 2) := by decide +kernel
theorem dX6_init_77 : decode cX6_init 77 = .ok (.newarray .int, 2) := by decide +kernel
theorem dX6_init_79 : decode cX6_init 79 = .ok (.putfield 37, 3) := by decide +kernel
theorem dX6_init_82 : decode cX6_init 82 = .ok (.aload_n 0, 1) := by decide +kernel
theorem dX6_init_83 : decode cX6_init 83 = .ok (.bipush 12, 2) := by decide +kernel
theorem dX6_init_85 : decode cX6_init 85 = .ok (.newarray .int, 2) := by decide +kernel
theorem dX6_init_87 : decode cX6_init 87 = .ok (.putfield 40, 3) := by decide +kernel
theorem dX6_init_90 : decode cX6_init 90 = .ok (.aload_n 0, 1) := by decide +kernel
theorem dX6_init_91 : decode cX6_init 91 = .ok (.bipush 6, 2) := by decide +kernel
theorem dX6_init_93 : decode cX6_init 93 = .ok (.newarray .int, 2) := by decide +kernel
theorem dX6_init_95 : decode cX6_init 95 = .ok (.putfield 43, 3) := by decide +kernel
theorem dX6_init_98 : decode cX6_init 98 = .ok (.aload_n 0, 1) := by decide +kernel
theorem dX6_init_99 : decode cX6_init 99 = .ok (.bipush 6, 2) := by decide +kernel
theorem dX6_init_101 : decode cX6_init 101 = .ok (.newarray .int, 2) := by decide +kernel
theorem dX6_init_103 : decode cX6_init 103 = .ok (.putfield 46, 3) := by decide +kernel
theorem dX6_init_106 : decode cX6_init 106 = .ok (.aload_n 0, 1) := by decide +kernel
theorem dX6_init_107 : decode cX6_init 107 = .ok (.bipush 40, 2) := by decide +kernel
theorem dX6_init_109 : decode cX6_init 109 = .ok (.newarray .int, 2) := by decide +kernel
theorem dX6_init_111 : decode cX6_init 111 = .ok (.putfield 49, 3) := by decide +kernel
theorem dX6_init_114 : decode cX6_init 114 = .ok (.aload_n 0, 1) := by decide +kernel
theorem dX6_init_115 : decode cX6_init 115 = .ok (.bipush 80, 2) := by decide +kernel
theorem dX6_init_117 : decode cX6_init 117 = .ok (.newarray .int, 2) := by decide +kernel
theorem dX6_init_119 : decode cX6_init 119 = .ok (.putfield 52, 3) := by decide +kernel
theorem dX6_init_122 : decode cX6_init 122 = .ok (.aload_n 0, 1) := by decide +kernel
theorem dX6_init_123 : decode cX6_init 123 = .ok (.bipush 40, 2) := by decide +kernel
theorem dX6_init_125 : decode cX6_init 125 = .ok (.newarray .int, 2) := by decide +kernel
theorem dX6_init_127 : decode cX6_init 127 = .ok (.putfield 55, 3) := by decide +kernel
theorem dX6_init_130 : decode cX6_init 130 = .ok (.aload_n 0, 1) := by decide +kernel
theorem dX6_init_131 : decode cX6_init 131 = .ok (.iconst 3, 1) := by decide +kernel
theorem dX6_init_132 : decode cX6_init 132 = .ok (.newarray .int, 2) := by decide +kernel
theorem dX6_init_134 : decode cX6_init 134 = .ok (.putfield 58, 3) := by decide +kernel
theorem dX6_init_137 : decode cX6_init 137 = .ok (.aload_n 0, 1) := by decide +kernel
theorem dX6_init_138 : decode cX6_init 138 = .ok (.bipush 6, 2) := by decide +kernel
theorem dX6_init_140 : decode cX6_init 140 = .ok (.newarray .int, 2) := by decide +kernel
theorem dX6_init_142 : decode cX6_init 142 = .ok (.putfield 61, 3) := by decide +kernel
theorem dX6_init_145 : decode cX6_init 145 = .ok (.aload_n 0, 1) := by decide +kernel
theorem dX6_init_146 : decode cX6_init 146 = .ok (.bipush 6, 2) := by decide +kernel
theorem dX6_init_148 : decode cX6_init 148 = .ok (.newarray .int, 2) := by decide +kernel
theorem dX6_init_150 : decode cX6_init 150 = .ok (.putfield 64, 3) := by decide +kernel
theorem dX6_init_153 : decode cX6_init 153 = .ok (.aload_n 0, 1) := by decide +kernel
theorem dX6_init_154 : decode cX6_init 154 = .ok (.bipush 6, 2) := by decide +kernel
theorem dX6_init_156 : decode cX6_init 156 = .ok (.newarray .int, 2) := by decide +kernel
theorem dX6_init_158 : decode cX6_init 158 = .ok (.putfield 67, 3) := by decide +kernel
theorem dX6_init_161 : decode cX6_init 161 = .ok (.aload_n 0, 1) := by decide +kernel
theorem dX6_init_162 : decode cX6_init 162 = .ok (.sipush 729, 3) := by decide +kernel
theorem dX6_init_165 : decode cX6_init 165 = .ok (.newarray .int, 2) := by decide +kernel
theorem dX6_init_167 : decode cX6_init 167 = .ok (.putfield 70, 3) := by decide +kernel
theorem dX6_init_170 : decode cX6_init 170 = .ok (.aload_n 0, 1) := by decide +kernel
theorem dX6_init_171 : decode cX6_init 171 = .ok (.bipush 8, 2) := by decide +kernel
theorem dX6_init_173 : decode cX6_init 173 = .ok (.newarray .int, 2) := by decide +kernel
theorem dX6_init_175 : decode cX6_init 175 = .ok (.putfield 73, 3) := by decide +kernel
theorem dX6_init_178 : decode cX6_init 178 = .ok (.aload_n 0, 1) := by decide +kernel
theorem dX6_init_179 : decode cX6_init 179 = .ok (.bipush 8, 2) := by decide +kernel
theorem dX6_init_181 : decode cX6_init 181 = .ok (.newarray .int, 2) := by decide +kernel
theorem dX6_init_183 : decode cX6_init 183 = .ok (.putfield 76, 3) := by decide +kernel
theorem dX6_init_186 : decode cX6_init 186 = .ok (.aload_n 0, 1) := by decide +kernel
theorem dX6_init_187 : decode cX6_init 187 = .ok (.bipush 8, 2) := by decide +kernel
theorem dX6_init_189 : decode cX6_init 189 = .ok (.newarray .int, 2) := by decide +kernel
theorem dX6_init_191 : decode cX6_init 191 = .ok (.putfield 79, 3) := by decide +kernel
theorem dX6_init_194 : decode cX6_init 194 = .ok (.aload_n 0, 1) := by decide +kernel
theorem dX6_init_195 : decode cX6_init 195 = .ok (.bipush 8, 2) := by decide +kernel
theorem dX6_init_197 : decode cX6_init 197 = .ok (.newarray .int, 2) := by decide +kernel
theorem dX6_init_199 : decode cX6_init 199 = .ok (.putfield 82, 3) := by decide +kernel
theorem dX6_init_202 : decode cX6_init 202 = .ok (.aload_n 0, 1) := by decide +kernel
theorem dX6_init_203 : decode cX6_init 203 = .ok (.bipush 8, 2) := by decide +kernel
theorem dX6_init_205 : decode cX6_init 205 = .ok (.newarray .int, 2) := by decide +kernel
theorem dX6_init_207 : decode cX6_init 207 = .ok (.putfield 85, 3) := by decide +kernel
theorem dX6_init_210 : decode cX6_init 210 = .ok (.aload_n 0, 1) := by decide +kernel
theorem dX6_init_211 : decode cX6_init 211 = .ok (.iconst 4, 1) := by decide +kernel
theorem dX6_init_212 : decode cX6_init 212 = .ok (.newarray .boolean, 2) := by decide +kernel
theorem dX6_init_214 : decode cX6_init 214 = .ok (.putfield 88, 3) := by decide +kernel
theorem dX6_init_217 : decode cX6_init 217 = .ok (.aload_n 0, 1) := by decide +kernel
theorem dX6_init_218 : decode cX6_init 218 = .ok (.iconst 4, 1) := by decide +kernel
theorem dX6_init_219 : decode cX6_init 219 = .ok (.newarray .int, 2) := by decide +kernel
theorem dX6_init_221 : decode cX6_init 221 = .ok (.putfield 92, 3) := by decide +kernel
theorem dX6_init_224 : decode cX6_init 224 = .ok (.aload_n 0, 1) := by decide +kernel
theorem dX6_init_225 : decode cX6_init 225 = .ok (.iconst 4, 1) := by decide +kernel
theorem dX6_init_226 : decode cX6_init 226 = .ok (.newarray .int, 2) := by decide +kernel
theorem dX6_init_228 : decode cX6_init 228 = .ok (.putfield 95, 3) := by decide +kernel
theorem dX6_init_231 : decode cX6_init 231 = .ok (.aload_n 0, 1) := by decide +kernel
theorem dX6_init_232 : decode cX6_init 232 = .ok (.sipush 240, 3) := by decide +kernel
theorem dX6_init_235 : decode cX6_init 235 = .ok (.newarray .int, 2) := by decide +kernel
theorem dX6_init_237 : decode cX6_init 237 = .ok (.putfield 98, 3) := by decide +kernel
theorem dX6_init_240 : decode cX6_init 240 = .ok (.aload_n 0, 1) := by decide +kernel
theorem dX6_init_241 : decode cX6_init 241 = .ok (.bipush 60, 2) := by decide +kernel
theorem dX6_init_243 : decode cX6_init 243 = .ok (.newarray .int, 2) := by decide +kernel
theorem dX6_init_245 : decode cX6_init 245 = .ok (.putfield 101, 3) := by decide +kernel
theorem dX6_init_248 : decode cX6_init 248 = .ok (.return_, 1) := by decide +kernel
theorem dX6_in_0 : decode cX6_in 0 = .ok (.iload_n 0, 1) := by decide +kernel
theorem dX6_in_1 : decode cX6_in 1 = .ok (.iload_n 1, 1) := by decide +kernel
theorem dX6_in_2 : decode cX6_in 2 = .ok (.if_icmp .lt 12, 3) := by decide +kernel
theorem dX6_in_5 : decode cX6_in 5 = .ok (.iload_n 0, 1) := by decide +kernel
theorem dX6_in_6 : decode cX6_in 6 = .ok (.iload_n 2, 1) := by decide +kernel
theorem dX6_in_7 : decode cX6_in 7 = .ok (.if_icmp .gt 7, 3) := by decide +kernel
theorem dX6_in_10 : decode cX6_in 10 = .ok (.iconst 1, 1) := by decide +kernel
theorem dX6_in_11 : decode cX6_in 11 = .ok (.goto 4, 3) := by decide +kernel
theorem dX6_in_14 : decode cX6_in 14 = .ok (.iconst 0, 1) := by decide +kernel
theorem dX6_in_15 : decode cX6_in 15 = .ok (.ireturn, 1) := by decide +kernel
theorem dX6_isIn_0 : decode cX6_isIn 0 = .ok (.iload_n 0, 1) := by decide +kernel
theorem dX6_isIn_1 : decode cX6_isIn 1 = .ok (.iload_n 1, 1) := by decide +kernel
theorem dX6_isIn_2 : decode cX6_isIn 2 = .ok (.ishr, 1) := by decide +kernel
theorem dX6_isIn_3 : decode cX6_isIn 3 = .ok (.iconst 1, 1) := by decide +kernel
theorem dX6_isIn_4 : decode cX6_isIn 4 = .ok (.iand, 1) := by decide +kernel
theorem dX6_isIn_5 : decode cX6_isIn 5 = .ok (.iconst 1, 1) := by decide +kernel
theorem dX6_isIn_6 : decode cX6_isIn 6 = .ok (.if_icmp .ne 7, 3) := by decide +kernel
theorem dX6_isIn_9 : decode cX6_isIn 9 = .ok (.iconst 1, 1) := by decide +kernel
theorem dX6_isIn_10 : decode cX6_isIn 10 = .ok (.goto 4, 3) := by decide +kernel
theorem dX6_isIn_13 : decode cX6_isIn 13 = .ok (.iconst 0, 1) := by decide +kernel
theorem dX6_isIn_14 : decode cX6_isIn 14 = .ok (.ireturn, 1) := by decide +kernel
theorem dX6_ones_0 : decode cX6_ones 0 = .ok (.iconst 0, 1) := by decide +kernel
theorem dX6_ones_1 : decode cX6_ones 1 = .ok (.istore_n 1, 1) := by decide +kernel
theorem dX6_ones_2 : decode cX6_ones 2 = .ok (.iconst 0, 1) := by decide +kernel
theorem dX6_ones_3 : decode cX6_ones 3 = .ok (.istore_n 2, 1) := by decide +kernel
theorem dX6_ones_4 : decode cX6_ones 4 = .ok (.iload_n 2, 1) := by decide +kernel
theorem dX6_ones_5 : decode cX6_ones 5 = .ok (.bipush 8, 2) := by decide +kernel
theorem dX6_ones_7 : decode cX6_ones 7 = .ok (.if_icmp .ge 17, 3) := by decide +kernel
theorem dX6_ones_10 : decode cX6_ones 10 = .ok (.iload_n 1, 1) := by decide +kernel
theorem dX6_ones_11 : decode cX6_ones 11 = .ok (.iload_n 0, 1) := by decide +kernel
theorem dX6_ones_12 : decode cX6_ones 12 = .ok (.iload_n 2, 1) := by decide +kernel
theorem dX6_ones_13 : decode cX6_ones 13 = .ok (.ishr, 1) := by decide +kernel
theorem dX6_ones_14 : decode cX6_ones 14 = .ok (.iconst 1, 1) := by decide +kernel
theorem dX6_ones_15 : decode cX6_ones 15 = .ok (.iand, 1) := by decide +kernel
theorem dX6_ones_16 : decode cX6_ones 16 = .ok (.iadd, 1) := by decide +kernel
theorem dX6_ones_17 : decode cX6_ones 17 = .ok (.istore_n 1, 1) := by decide +kernel
theorem dX6_ones_18 : decode cX6_ones 18 = .ok (.iinc 2 1, 3) := by decide +kernel
theorem dX6_ones_21 : decode cX6_ones 21 = .ok (.goto (-17), 3) := by decide +kernel
theorem dX6_ones_24 : decode cX6_ones 24 = .ok (.iload_n 1, 1) := by decide +kernel
theorem dX6_ones_25 : decode cX6_ones 25 = .ok (.ireturn, 1) := by decide +kernel
theorem dX6_no_0 : decode cX6_no 0 = .ok (.ldc2_w 104, 3) := by decide +kernel
theorem dX6_no_3 : decode cX6_no 3 = .ok (.iload_n 0, 1) := by decide +kernel
theorem dX6_no_4 : decode cX6_no 4 = .ok (.i2l, 1) := by decide +kernel
theorem dX6_no_5 : decode cX6_no 5 = .ok (.lsub, 1) := by decide +kernel
theorem dX6_no_6 : decode cX6_no 6 = .ok (.lreturn, 1) := by decide +kernel
theorem dX6_lowest_0 : decode cX6_lowest 0 = .ok (.lload_n 0, 1) := by decide +kernel
theorem dX6_lowest_1 : decode cX6_lowest 1 = .ok (.lstore 5, 2) := by decide +kernel
theorem dX6_lowest_3 : decode cX6_lowest 3 = .ok (.lload_n 2, 1) := by decide +kernel
theorem dX6_lowest_4 : decode cX6_lowest 4 = .ok (.lstore 7, 2) := by decide +kernel
theorem dX6_lowest_6 : decode cX6_lowest 6 = .ok (.lload 7, 2) := by decide +kernel
theorem dX6_lowest_8 : decode cX6_lowest 8 = .ok (.lconst 0, 1) := by decide +kernel
theorem dX6_lowest_9 : decode cX6_lowest 9 = .ok (.lcmp, 1) := by decide +kernel
theorem dX6_lowest_10 : decode cX6_lowest 10 = .ok (.ifCond .eq 21, 3) := by decide +kernel
theorem dX6_lowest_13 : decode cX6_lowest 13 = .ok (.lload 5, 2) := by decide +kernel
theorem dX6_lowest_15 : decode cX6_lowest 15 = .ok (.lload 7, 2) := by decide +kernel
theorem dX6_lowest_17 : decode cX6_lowest 17 = .ok (.lrem, 1) := by decide +kernel
theorem dX6_lowest_18 : decode cX6_lowest 18 = .ok (.lstore 9, 2) := by decide +kernel
theorem dX6_lowest_20 : decode cX6_lowest 20 = .ok (.lload 7, 2) := by decide +kernel
theorem dX6_lowest_22 : decode cX6_lowest 22 = .ok (.lstore 5, 2) := by decide +kernel
theorem dX6_lowest_24 : decode cX6_lowest 24 = .ok (.lload 9, 2) := by decide +kernel
theorem dX6_lowest_26 : decode cX6_lowest 26 = .ok (.lstore 7, 2) := by decide +kernel
theorem dX6_lowest_28 : decode cX6_lowest 28 = .ok (.goto (-22), 3) := by decide +kernel
theorem dX6_lowest_31 : decode cX6_lowest 31 = .ok (.iload 4, 2) := by decide +kernel
theorem dX6_lowest_33 : decode cX6_lowest 33 = .ok (.ifCond .ne 10, 3) := by decide +kernel
theorem dX6_lowest_36 : decode cX6_lowest 36 = .ok (.lload_n 0, 1) := by decide +kernel
theorem dX6_lowest_37 : decode cX6_lowest 37 = .ok (.lload 5, 2) := by decide +kernel
theorem dX6_lowest_39 : decode cX6_lowest 39 = .ok (.ldiv, 1) := by decide +kernel
theorem dX6_lowest_40 : decode cX6_lowest 40 = .ok (.goto 7, 3) := by decide +kernel
theorem dX6_lowest_43 : decode cX6_lowest 43 = .ok (.lload_n 2, 1) := by decide +kernel
theorem dX6_lowest_44 : decode cX6_lowest 44 = .ok (.lload 5, 2) := by decide +kernel
theorem dX6_lowest_46 : decode cX6_lowest 46 = .ok (.ldiv, 1) := by decide +kernel
theorem dX6_lowest_47 : decode cX6_lowest 47 = .ok (.lreturn, 1) := by decide +kernel
theorem dX6_isDay_0 : decode cX6_isDay 0 = .ok (.iload_n 0, 1) := by decide +kernel
theorem dX6_isDay_1 : decode cX6_isDay 1 = .ok (.iconst 0, 1) := by decide +kernel
theorem dX6_isDay_2 : decode cX6_isDay 2 = .ok (.bipush 39, 2) := by decide +kernel
theorem dX6_isDay_4 : decode cX6_isDay 4 = .ok (.invokestatic 106, 3) := by decide +kernel
theorem dX6_isDay_7 : decode cX6_isDay 7 = .ok (.ireturn, 1) := by decide +kernel
theorem dX6_isEight_0 : decode cX6_isEight 0 = .ok (.iload_n 0, 1) := by decide +kernel
theorem dX6_isEight_1 : decode cX6_isEight 1 = .ok (.iconst 0, 1) := by decide +kernel
theorem dX6_isEight_2 : decode cX6_isEight 2 = .ok (.bipush 7, 2) := by decide +kernel
theorem dX6_isEight_4 : decode cX6_isEight 4 = .ok (.invokestatic 106, 3) := by decide +kernel
theorem dX6_isEight_7 : decode cX6_isEight 7 = .ok (.ireturn, 1) := by decide +kernel
theorem dX6_isTwo_0 : decode cX6_isTwo 0 = .ok (.iload_n 0, 1) := by decide +kernel
theorem dX6_isTwo_1 : decode cX6_isTwo 1 = .ok (.iconst 0, 1) := by decide +kernel
theorem dX6_isTwo_2 : decode cX6_isTwo 2 = .ok (.iconst 1, 1) := by decide +kernel
theorem dX6_isTwo_3 : decode cX6_isTwo 3 = .ok (.invokestatic 106, 3) := by decide +kernel
theorem dX6_isTwo_6 : decode cX6_isTwo 6 = .ok (.ireturn, 1) := by decide +kernel
theorem dX6_type_0 : decode cX6_type 0 = .ok (.iload_n 1, 1) := by decide +kernel
theorem dX6_type_1 : decode cX6_type 1 = .ok (.iconst 0, 1) := by decide +kernel
theorem dX6_type_2 : decode cX6_type 2 = .ok (.sipush 255, 3) := by decide +kernel
theorem dX6_type_5 : decode cX6_type 5 = .ok (.invokestatic 106, 3) := by decide +kernel
theorem dX6_type_8 : decode cX6_type 8 = .ok (.ifCond .ne 6, 3) := by decide +kernel
theorem dX6_type_11 : decode cX6_type 11 = .ok (.bipush (-2), 2) := by decide +kernel
theorem dX6_type_13 : decode cX6_type 13 = .ok (.ireturn, 1) := by decide +kernel
theorem dX6_type_14 : decode cX6_type 14 = .ok (.aload_n 0, 1) := by decide +kernel
theorem dX6_type_15 : decode cX6_type 15 = .ok (.getfield 110, 3) := by decide +kernel
theorem dX6_type_18 : decode cX6_type 18 = .ok (.bipush 23, 2) := by decide +kernel
theorem dX6_type_20 : decode cX6_type 20 = .ok (.if_icmp .ne 6, 3) := by decide +kernel
theorem dX6_type_23 : decode cX6_type 23 = .ok (.bipush (-4), 2) := by decide +kernel
theorem dX6_type_25 : decode cX6_type 25 = .ok (.ireturn, 1) := by decide +kernel
theorem dX6_type_26 : decode cX6_type 26 = .ok (.aload_n 0, 1) := by decide +kernel
theorem dX6_type_27 : decode cX6_type 27 = .ok (.getfield 7, 3) := by decide +kernel
theorem dX6_type_30 : decode cX6_type 30 = .ok (.aload_n 0, 1) := by decide +kernel
theorem dX6_type_31 : decode cX6_type 31 = .ok (.getfield 110, 3) := by decide +kernel
theorem dX6_type_34 : decode cX6_type 34 = .ok (.iload_n 1, 1) := by decide +kernel
theorem dX6_type_35 : decode cX6_type 35 = .ok (.iastore, 1) := by decide +kernel
theorem dX6_type_36 : decode cX6_type 36 = .ok (.aload_n 0, 1) := by decide +kernel
theorem dX6_type_37 : decode cX6_type 37 = .ok (.dup, 1) := by decide +kernel
theorem dX6_type_38 : decode cX6_type 38 = .ok (.getfield 110, 3) := by decide +kernel
theorem dX6_type_41 : decode cX6_type 41 = .ok (.iconst 1, 1) := by decide +kernel
theorem dX6_type_42 : decode cX6_type 42 = .ok (.iadd, 1) := by decide +kernel
theorem dX6_type_43 : decode cX6_type 43 = .ok (.putfield 110, 3) := by decide +kernel
theorem dX6_type_46 : decode cX6_type 46 = .ok (.aload_n 0, 1) := by decide +kernel
theorem dX6_type_47 : decode cX6_type 47 = .ok (.getfield 110, 3) := by decide +kernel
theorem dX6_type_50 : decode cX6_type 50 = .ok (.ireturn, 1) := by decide +kernel
theorem dX6_wipe_0 : decode cX6_wipe 0 = .ok (.aload_n 0, 1) := by decide +kernel
theorem dX6_wipe_1 : decode cX6_wipe 1 = .ok (.getfield 110, 3) := by decide +kernel
theorem dX6_wipe_4 : decode cX6_wipe 4 = .ok (.istore_n 1, 1) := by decide +kernel
theorem dX6_wipe_5 : decode cX6_wipe 5 = .ok (.aload_n 0, 1) := by decide +kernel
theorem dX6_wipe_6 : decode cX6_wipe 6 = .ok (.iconst 0, 1) := by decide +kernel
theorem dX6_wipe_7 : decode cX6_wipe 7 = .ok (.putfield 110, 3) := by decide +kernel
theorem dX6_wipe_10 : decode cX6_wipe 10 = .ok (.iload_n 1, 1) := by decide +kernel
theorem dX6_wipe_11 : decode cX6_wipe 11 = .ok (.ireturn, 1) := by decide +kernel
theorem dX6_undo_0 : decode cX6_undo 0 = .ok (.aload_n 0, 1) := by decide +kernel
theorem dX6_undo_1 : decode cX6_undo 1 = .ok (.getfield 110, 3) := by decide +kernel
theorem dX6_undo_4 : decode cX6_undo 4 = .ok (.ifCond .ne 6, 3) := by decide +kernel
theorem dX6_undo_7 : decode cX6_undo 7 = .ok (.bipush (-3), 2) := by decide +kernel
theorem dX6_undo_9 : decode cX6_undo 9 = .ok (.ireturn, 1) := by decide +kernel
theorem dX6_undo_10 : decode cX6_undo 10 = .ok (.aload_n 0, 1) := by decide +kernel
theorem dX6_undo_11 : decode cX6_undo 11 = .ok (.dup, 1) := by decide +kernel
theorem dX6_undo_12 : decode cX6_undo 12 = .ok (.getfield 110, 3) := by decide +kernel
theorem dX6_undo_15 : decode cX6_undo 15 = .ok (.iconst 1, 1) := by decide +kernel
theorem dX6_undo_16 : decode cX6_undo 16 = .ok (.isub, 1) := by decide +kernel
theorem dX6_undo_17 : decode cX6_undo 17 = .ok (.putfield 110, 3) := by decide +kernel
theorem dX6_undo_20 : decode cX6_undo 20 = .ok (.aload_n 0, 1) := by decide +kernel
theorem dX6_undo_21 : decode cX6_undo 21 = .ok (.getfield 110, 3) := by decide +kernel
theorem dX6_undo_24 : decode cX6_undo 24 = .ok (.ireturn, 1) := by decide +kernel
theorem dX6_faultNow_0 : decode cX6_faultNow 0 = .ok (.iconst 0, 1) := by decide +kernel
theorem dX6_faultNow_1 : decode cX6_faultNow 1 = .ok (.istore_n 1, 1) := by decide +kernel
theorem dX6_faultNow_2 : decode cX6_faultNow 2 = .ok (.iconst 0, 1) := by decide +kernel
theorem dX6_faultNow_3 : decode cX6_faultNow 3 = .ok (.istore_n 2, 1) := by decide +kernel
theorem dX6_faultNow_4 : decode cX6_faultNow 4 = .ok (.iconst 0, 1) := by decide +kernel
theorem dX6_faultNow_5 : decode cX6_faultNow 5 = .ok (.istore_n 3, 1) := by decide +kernel
theorem dX6_faultNow_6 : decode cX6_faultNow 6 = .ok (.aload_n 0, 1) := by decide +kernel
theorem dX6_faultNow_7 : decode cX6_faultNow 7 = .ok (.iconst 0, 1) := by decide +kernel
theorem dX6_faultNow_8 : decode cX6_faultNow 8 = .ok (.putfield 114, 3) := by decide +kernel
theorem dX6_faultNow_11 : decode cX6_faultNow 11 = .ok (.aload_n 0, 1) := by decide +kernel
theorem dX6_faultNow_12 : decode cX6_faultNow 12 = .ok (.iconst 0, 1) := by decide +kernel
theorem dX6_faultNow_13 : decode cX6_faultNow 13 = .ok (.putfield 117, 3) := by decide +kernel
theorem dX6_faultNow_16 : decode cX6_faultNow 16 = .ok (.iload_n 2, 1) := by decide +kernel
theorem dX6_faultNow_17 : decode cX6_faultNow 17 = .ok (.aload_n 0, 1) := by decide +kernel
theorem dX6_faultNow_18 : decode cX6_faultNow 18 = .ok (.getfield 110, 3) := by decide +kernel
theorem dX6_faultNow_21 : decode cX6_faultNow 21 = .ok (.if_icmp .lt 7, 3) := by decide +kernel
theorem dX6_faultNow_24 : decode cX6_faultNow 24 = .ok (.iload_n 2, 1) := by decide +kernel
theorem dX6_faultNow_25 : decode cX6_faultNow 25 = .ok (.ifCond .le 154, 3) := by decide +kernel
theorem dX6_faultNow_28 : decode cX6_faultNow 28 = .ok (.iload_n 2, 1) := by decide +kernel
theorem dX6_faultNow_29 : decode cX6_faultNow 29 = .ok (.iconst 1, 1) := by decide +kernel
theorem dX6_faultNow_30 : decode cX6_faultNow 30 = .ok (.iadd, 1) := by decide +kernel
theorem dX6_faultNow_31 : decode cX6_faultNow 31 = .ok (.aload_n 0, 1) := by decide +kernel
theorem dX6_faultNow_32 : decode cX6_faultNow 32 = .ok (.getfield 110, 3) := by decide +kernel
theorem dX6_faultNow_35 : decode cX6_faultNow 35 = .ok (.if_icmp .ge 14, 3) := by decide +kernel
theorem dX6_faultNow_38 : decode cX6_faultNow 38 = .ok (.aload_n 0, 1) := by decide +kernel
theorem dX6_faultNow_39 : decode cX6_faultNow 39 = .ok (.getfield 7, 3) := by decide +kernel
theorem dX6_faultNow_42 : decode cX6_faultNow 42 = .ok (.iload_n 2, 1) := by decide +kernel
theorem dX6_faultNow_43 : decode cX6_faultNow 43 = .ok (.iconst 1, 1) := by decide +kernel
theorem dX6_faultNow_44 : decode cX6_faultNow 44 = .ok (.iadd, 1) := by decide +kernel
theorem dX6_faultNow_45 : decode cX6_faultNow 45 = .ok (.iaload, 1) := by decide +kernel
theorem dX6_faultNow_46 : decode cX6_faultNow 46 = .ok (.goto 4, 3) := by decide +kernel
theorem dX6_faultNow_49 : decode cX6_faultNow 49 = .ok (.iconst (-1), 1) := by decide +kernel
theorem dX6_faultNow_50 : decode cX6_faultNow 50 = .ok (.istore 4, 2) := by decide +kernel
theorem dX6_faultNow_52 : decode cX6_faultNow 52 = .ok (.iload_n 1, 1) := by decide +kernel
theorem dX6_faultNow_53 : decode cX6_faultNow 53 = .ok (.bipush 8, 2) := by decide +kernel
theorem dX6_faultNow_55 : decode cX6_faultNow 55 = .ok (.if_icmp .eq 27, 3) := by decide +kernel
theorem dX6_faultNow_58 : decode cX6_faultNow 58 = .ok (.iload_n 2, 1) := by decide +kernel
theorem dX6_faultNow_59 : decode cX6_faultNow 59 = .ok (.aload_n 0, 1) := by decide +kernel
theorem dX6_faultNow_60 : decode cX6_faultNow 60 = .ok (.getfield 110, 3) := by decide +kernel
theorem dX6_faultNow_63 : decode cX6_faultNow 63 = .ok (.if_icmp .eq 19, 3) := by decide +kernel
theorem dX6_faultNow_66 : decode cX6_faultNow 66 = .ok (.aload_n 0, 1) := by decide +kernel
theorem dX6_faultNow_67 : decode cX6_faultNow 67 = .ok (.getfield 7, 3) := by decide +kernel
theorem dX6_faultNow_70 : decode cX6_faultNow 70 = .ok (.iload_n 2, 1) := by decide +kernel
theorem dX6_faultNow_71 : decode cX6_faultNow 71 = .ok (.iaload, 1) := by decide +kernel
theorem dX6_faultNow_72 : decode cX6_faultNow 72 = .ok (.bipush 48, 2) := by decide +kernel
theorem dX6_faultNow_74 : decode cX6_faultNow 74 = .ok (.bipush 57, 2) := by decide +kernel
theorem dX6_faultNow_76 : decode cX6_faultNow 76 = .ok (.invokestatic 106, 3) := by decide +kernel
theorem dX6_faultNow_79 : decode cX6_faultNow 79 = .ok (.ifCond .ne 5, 3) := by decide +kernel
theorem dX6_faultNow_82 : decode cX6_faultNow 82 = .ok (.iload_n 2, 1) := by decide +kernel
theorem dX6_faultNow_83 : decode cX6_faultNow 83 = .ok (.ireturn, 1) := by decide +kernel
theorem dX6_faultNow_84 : decode cX6_faultNow 84 = .ok (.iload 4, 2) := by decide +kernel
theorem dX6_faultNow_86 : decode cX6_faultNow 86 = .ok (.bipush 97, 2) := by decide +kernel
theorem dX6_faultNow_88 : decode cX6_faultNow 88 = .ok (.if_icmp .eq 14, 3) := by decide +kernel
theorem dX6_faultNow_91 : decode cX6_faultNow 91 = .ok (.iload 4, 2) := by decide +kernel
theorem dX6_faultNow_93 : decode cX6_faultNow 93 = .ok (.bipush 102, 2) := by decide +kernel
theorem dX6_faultNow_95 : decode cX6_faultNow 95 = .ok (.if_icmp .eq 7, 3) := by decide +kernel
theorem dX6_faultNow_98 : decode cX6_faultNow 98 = .ok (.iload_n 2, 1) := by decide +kernel
theorem dX6_faultNow_99 : decode cX6_faultNow 99 = .ok (.iconst 1, 1) := by decide +kernel
theorem dX6_faultNow_100 : decode cX6_faultNow 100 = .ok (.iadd, 1) := by decide +kernel
theorem dX6_faultNow_101 : decode cX6_faultNow 101 = .ok (.ireturn, 1) := by decide +kernel
theorem dX6_faultNow_102 : decode cX6_faultNow 102 = .ok (.aload_n 0, 1) := by decide +kernel
theorem dX6_faultNow_103 : decode cX6_faultNow 103 = .ok (.getfield 13, 3) := by decide +kernel
theorem dX6_faultNow_106 : decode cX6_faultNow 106 = .ok (.iload_n 1, 1) := by decide +kernel
theorem dX6_faultNow_107 : decode cX6_faultNow 107 = .ok (.aload_n 0, 1) := by decide +kernel
theorem dX6_faultNow_108 : decode cX6_faultNow 108 = .ok (.getfield 7, 3) := by decide +kernel
theorem dX6_faultNow_111 : decode cX6_faultNow 111 = .ok (.iload_n 2, 1) := by decide +kernel
theorem dX6_faultNow_112 : decode cX6_faultNow 112 = .ok (.iaload, 1) := by decide +kernel
theorem dX6_faultNow_113 : decode cX6_faultNow 113 = .ok (.bipush 48, 2) := by decide +kernel
theorem dX6_faultNow_115 : decode cX6_faultNow 115 = .ok (.isub, 1) := by decide +kernel
theorem dX6_faultNow_116 : decode cX6_faultNow 116 = .ok (.iastore, 1) := by decide +kernel
theorem dX6_faultNow_117 : decode cX6_faultNow 117 = .ok (.iload_n 3, 1) := by decide +kernel
theorem dX6_faultNow_118 : decode cX6_faultNow 118 = .ok (.iload 4, 2) := by decide +kernel
theorem dX6_faultNow_120 : decode cX6_faultNow 120 = .ok (.bipush 97, 2) := by decide +kernel
theorem dX6_faultNow_122 : decode cX6_faultNow 122 = .ok (.if_icmp .ne 9, 3) := by decide +kernel
theorem dX6_faultNow_125 : decode cX6_faultNow 125 = .ok (.iconst 1, 1) := by decide +kernel
theorem dX6_faultNow_126 : decode cX6_faultNow 126 = .ok (.iload_n 1, 1) := by decide +kernel
theorem dX6_faultNow_127 : decode cX6_faultNow 127 = .ok (.ishl, 1) := by decide +kernel
theorem dX6_faultNow_128 : decode cX6_faultNow 128 = .ok (.goto 4, 3) := by decide +kernel
theorem dX6_faultNow_131 : decode cX6_faultNow 131 = .ok (.iconst 0, 1) := by decide +kernel
theorem dX6_faultNow_132 : decode cX6_faultNow 132 = .ok (.ior, 1) := by decide +kernel
theorem dX6_faultNow_133 : decode cX6_faultNow 133 = .ok (.istore_n 3, 1) := by decide +kernel
theorem dX6_faultNow_134 : decode cX6_faultNow 134 = .ok (.iinc 1 1, 3) := by decide +kernel
theorem dX6_faultNow_137 : decode cX6_faultNow 137 = .ok (.iinc 2 2, 3) := by decide +kernel
theorem dX6_faultNow_140 : decode cX6_faultNow 140 = .ok (.iload_n 2, 1) := by decide +kernel
theorem dX6_faultNow_141 : decode cX6_faultNow 141 = .ok (.aload_n 0, 1) := by decide +kernel
theorem dX6_faultNow_142 : decode cX6_faultNow 142 = .ok (.getfield 110, 3) := by decide +kernel
theorem dX6_faultNow_145 : decode cX6_faultNow 145 = .ok (.if_icmp .ne 15, 3) := by decide +kernel
theorem dX6_faultNow_148 : decode cX6_faultNow 148 = .ok (.aload_n 0, 1) := by decide +kernel
theorem dX6_faultNow_149 : decode cX6_faultNow 149 = .ok (.iload_n 1, 1) := by decide +kernel
theorem dX6_faultNow_150 : decode cX6_faultNow 150 = .ok (.putfield 114, 3) := by decide +kernel
theorem dX6_faultNow_153 : decode cX6_faultNow 153 = .ok (.aload_n 0, 1) := by decide +kernel
theorem dX6_faultNow_154 : decode cX6_faultNow 154 = .ok (.iload_n 3, 1) := by decide +kernel
theorem dX6_faultNow_155 : decode cX6_faultNow 155 = .ok (.putfield 117, 3) := by decide +kernel
theorem dX6_faultNow_158 : decode cX6_faultNow 158 = .ok (.iconst (-1), 1) := by decide +kernel
theorem dX6_faultNow_159 : decode cX6_faultNow 159 = .ok (.ireturn, 1) := by decide +kernel
theorem dX6_faultNow_160 : decode cX6_faultNow 160 = .ok (.aload_n 0, 1) := by decide +kernel
theorem dX6_faultNow_161 : decode cX6_faultNow 161 = .ok (.getfield 7, 3) := by decide +kernel
theorem dX6_faultNow_164 : decode cX6_faultNow 164 = .ok (.iload_n 2, 1) := by decide +kernel
theorem dX6_faultNow_165 : decode cX6_faultNow 165 = .ok (.iaload, 1) := by decide +kernel
theorem dX6_faultNow_166 : decode cX6_faultNow 166 = .ok (.bipush 59, 2) := by decide +kernel
theorem dX6_faultNow_168 : decode cX6_faultNow 168 = .ok (.if_icmp .eq 5, 3) := by decide +kernel
theorem dX6_faultNow_171 : decode cX6_faultNow 171 = .ok (.iload_n 2, 1) := by decide +kernel
theorem dX6_faultNow_172 : decode cX6_faultNow 172 = .ok (.ireturn, 1) := by decide +kernel
theorem dX6_faultNow_173 : decode cX6_faultNow 173 = .ok (.iinc 2 1, 3) := by decide +kernel
theorem dX6_faultNow_176 : decode cX6_faultNow 176 = .ok (.goto (-160), 3) := by decide +kernel
theorem dX6_faultNow_179 : decode cX6_faultNow 179 = .ok (.iconst (-1), 1) := by decide +kernel
theorem dX6_faultNow_180 : decode cX6_faultNow 180 = .ok (.ireturn, 1) := by decide +kernel
theorem dX6_fault_0 : decode cX6_fault 0 = .ok (.aload_n 0, 1) := by decide +kernel
theorem dX6_fault_1 : decode cX6_fault 1 = .ok (.invokevirtual 120, 3) := by decide +kernel
theorem dX6_fault_4 : decode cX6_fault 4 = .ok (.ireturn, 1) := by decide +kernel
theorem dX6_reads_0 : decode cX6_reads 0 = .ok (.aload_n 0, 1) := by decide +kernel
theorem dX6_reads_1 : decode cX6_reads 1 = .ok (.invokevirtual 120, 3) := by decide +kernel
theorem dX6_reads_4 : decode cX6_reads 4 = .ok (.istore_n 1, 1) := by decide +kernel
theorem dX6_reads_5 : decode cX6_reads 5 = .ok (.return_, 1) := by decide +kernel
theorem dX6_isDeed_0 : decode cX6_isDeed 0 = .ok (.aload_n 0, 1) := by decide +kernel
theorem dX6_isDeed_1 : decode cX6_isDeed 1 = .ok (.invokevirtual 124, 3) := by decide +kernel
theorem dX6_isDeed_4 : decode cX6_isDeed 4 = .ok (.iload_n 1, 1) := by decide +kernel
theorem dX6_isDeed_5 : decode cX6_isDeed 5 = .ok (.iconst 0, 1) := by decide +kernel
theorem dX6_isDeed_6 : decode cX6_isDeed 6 = .ok (.aload_n 0, 1) := by decide +kernel
theorem dX6_isDeed_7 : decode cX6_isDeed 7 = .ok (.getfield 114, 3) := by decide +kernel
theorem dX6_isDeed_10 : decode cX6_isDeed 10 = .ok (.iconst 1, 1) := by decide +kernel
theorem dX6_isDeed_11 : decode cX6_isDeed 11 = .ok (.isub, 1) := by decide +kernel
theorem dX6_isDeed_12 : decode cX6_isDeed 12 = .ok (.invokestatic 106, 3) := by decide +kernel
theorem dX6_isDeed_15 : decode cX6_isDeed 15 = .ok (.ireturn, 1) := by decide +kernel
theorem dX6_allDeeds_0 : decode cX6_allDeeds 0 = .ok (.iconst 1, 1) := by decide +kernel
theorem dX6_allDeeds_1 : decode cX6_allDeeds 1 = .ok (.aload_n 0, 1) := by decide +kernel
theorem dX6_allDeeds_2 : decode cX6_allDeeds 2 = .ok (.getfield 114, 3) := by decide +kernel
theorem dX6_allDeeds_5 : decode cX6_allDeeds 5 = .ok (.ishl, 1) := by decide +kernel
theorem dX6_allDeeds_6 : decode cX6_allDeeds 6 = .ok (.iconst 1, 1) := by decide +kernel
theorem dX6_allDeeds_7 : decode cX6_allDeeds 7 = .ok (.isub, 1) := by decide +kernel
theorem dX6_allDeeds_8 : decode cX6_allDeeds 8 = .ok (.ireturn, 1) := by decide +kernel
theorem dX6_youngerFirst_0 : decode cX6_youngerFirst 0 = .ok (.iconst 0, 1) := by decide +kernel
theorem dX6_youngerFirst_1 : decode cX6_youngerFirst 1 = .ok (.istore_n 1, 1) := by decide +kernel
theorem dX6_youngerFirst_2 : decode cX6_youngerFirst 2 = .ok (.iconst 0, 1) := by decide +kernel
theorem dX6_youngerFirst_3 : decode cX6_youngerFirst 3 = .ok (.istore_n 2, 1) := by decide +kernel
theorem dX6_youngerFirst_4 : decode cX6_youngerFirst 4 = .ok (.iload_n 2, 1) := by decide +kernel
theorem dX6_youngerFirst_5 : decode cX6_youngerFirst 5 = .ok (.aload_n 0, 1) := by decide +kernel
theorem dX6_youngerFirst_6 : decode cX6_youngerFirst 6 = .ok (.getfield 114, 3) := by decide +kernel
theorem dX6_youngerFirst_9 : decode cX6_youngerFirst 9 = .ok (.if_icmp .ge 109, 3) := by decide +kernel
theorem dX6_youngerFirst_12 : decode cX6_youngerFirst 12 = .ok (.iload_n 2, 1) := by decide +kernel
theorem dX6_youngerFirst_13 : decode cX6_youngerFirst 13 = .ok (.iconst 2, 1) := by decide +kernel
theorem dX6_youngerFirst_14 : decode cX6_youngerFirst 14 = .ok (.irem, 1) := by decide +kernel
theorem dX6_youngerFirst_15 : decode cX6_youngerFirst 15 = .ok (.ifCond .ne 9, 3) := by decide +kernel
theorem dX6_youngerFirst_18 : decode cX6_youngerFirst 18 = .ok (.iload_n 2, 1) := by decide +kernel
theorem dX6_youngerFirst_19 : decode cX6_youngerFirst 19 = .ok (.iconst 1, 1) := by decide +kernel
theorem dX6_youngerFirst_20 : decode cX6_youngerFirst 20 = .ok (.iadd, 1) := by decide +kernel
theorem dX6_youngerFirst_21 : decode cX6_youngerFirst 21 = .ok (.goto 6, 3) := by decide +kernel
theorem dX6_youngerFirst_24 : decode cX6_youngerFirst 24 = .ok (.iload_n 2, 1) := by decide +kernel
theorem dX6_youngerFirst_25 : decode cX6_youngerFirst 25 = .ok (.iconst 1, 1) := by decide +kernel
theorem dX6_youngerFirst_26 : decode cX6_youngerFirst 26 = .ok (.isub, 1) := by decide +kernel
theorem dX6_youngerFirst_27 : decode cX6_youngerFirst 27 = .ok (.istore_n 3, 1) := by decide +kernel
theorem dX6_youngerFirst_28 : decode cX6_youngerFirst 28 = .ok (.aload_n 0, 1) := by decide +kernel
theorem dX6_youngerFirst_29 : decode cX6_youngerFirst 29 = .ok (.getfield 117, 3) := by decide +kernel
theorem dX6_youngerFirst_32 : decode cX6_youngerFirst 32 = .ok (.iload_n 2, 1) := by decide +kernel
theorem dX6_youngerFirst_33 : decode cX6_youngerFirst 33 = .ok (.invokestatic 127, 3) := by decide +kernel
theorem dX6_youngerFirst_36 : decode cX6_youngerFirst 36 = .ok (.ifCond .ne 7, 3) := by decide +kernel
theorem dX6_youngerFirst_39 : decode cX6_youngerFirst 39 = .ok (.iconst 1, 1) := by decide +kernel
theorem dX6_youngerFirst_40 : decode cX6_youngerFirst 40 = .ok (.goto 4, 3) := by decide +kernel
theorem dX6_youngerFirst_43 : decode cX6_youngerFirst 43 = .ok (.iconst 0, 1) := by decide +kernel
theorem dX6_youngerFirst_44 : decode cX6_youngerFirst 44 = .ok (.istore 4, 2) := by decide +kernel
theorem dX6_youngerFirst_46 : decode cX6_youngerFirst 46 = .ok (.aload_n 0, 1) := by decide +kernel
theorem dX6_youngerFirst_47 : decode cX6_youngerFirst 47 = .ok (.getfield 131, 3) := by decide +kernel
theorem dX6_youngerFirst_50 : decode cX6_youngerFirst 50 = .ok (.iconst 1, 1) := by decide +kernel
theorem dX6_youngerFirst_51 : decode cX6_youngerFirst 51 = .ok (.if_icmp .ne 21, 3) := by decide +kernel
theorem dX6_youngerFirst_54 : decode cX6_youngerFirst 54 = .ok (.iload_n 3, 1) := by decide +kernel
theorem dX6_youngerFirst_55 : decode cX6_youngerFirst 55 = .ok (.aload_n 0, 1) := by decide +kernel
theorem dX6_youngerFirst_56 : decode cX6_youngerFirst 56 = .ok (.getfield 114, 3) := by decide +kernel
theorem dX6_youngerFirst_59 : decode cX6_youngerFirst 59 = .ok (.if_icmp .ge 13, 3) := by decide +kernel
theorem dX6_youngerFirst_62 : decode cX6_youngerFirst 62 = .ok (.aload_n 0, 1) := by decide +kernel
theorem dX6_youngerFirst_63 : decode cX6_youngerFirst 63 = .ok (.getfield 117, 3) := by decide +kernel
theorem dX6_youngerFirst_66 : decode cX6_youngerFirst 66 = .ok (.iload_n 3, 1) := by decide +kernel
theorem dX6_youngerFirst_67 : decode cX6_youngerFirst 67 = .ok (.invokestatic 127, 3) := by decide +kernel
theorem dX6_youngerFirst_70 : decode cX6_youngerFirst 70 = .ok (.istore 4, 2) := by decide +kernel
theorem dX6_youngerFirst_72 : decode cX6_youngerFirst 72 = .ok (.aload_n 0, 1) := by decide +kernel
theorem dX6_youngerFirst_73 : decode cX6_youngerFirst 73 = .ok (.getfield 131, 3) := by decide +kernel
theorem dX6_youngerFirst_76 : decode cX6_youngerFirst 76 = .ok (.iconst 2, 1) := by decide +kernel
theorem dX6_youngerFirst_77 : decode cX6_youngerFirst 77 = .ok (.if_icmp .ne 20, 3) := by decide +kernel
theorem dX6_youngerFirst_80 : decode cX6_youngerFirst 80 = .ok (.aload_n 0, 1) := by decide +kernel
theorem dX6_youngerFirst_81 : decode cX6_youngerFirst 81 = .ok (.getfield 117, 3) := by decide +kernel
theorem dX6_youngerFirst_84 : decode cX6_youngerFirst 84 = .ok (.iload_n 2, 1) := by decide +kernel
theorem dX6_youngerFirst_85 : decode cX6_youngerFirst 85 = .ok (.iconst 1, 1) := by decide +kernel
theorem dX6_youngerFirst_86 : decode cX6_youngerFirst 86 = .ok (.iadd, 1) := by decide +kernel
theorem dX6_youngerFirst_87 : decode cX6_youngerFirst 87 = .ok (.aload_n 0, 1) := by decide +kernel
theorem dX6_youngerFirst_88 : decode cX6_youngerFirst 88 = .ok (.getfield 114, 3) := by decide +kernel
theorem dX6_youngerFirst_91 : decode cX6_youngerFirst 91 = .ok (.irem, 1) := by decide +kernel
theorem dX6_youngerFirst_92 : decode cX6_youngerFirst 92 = .ok (.invokestatic 127, 3) := by decide +kernel
theorem dX6_youngerFirst_95 : decode cX6_youngerFirst 95 = .ok (.istore 4, 2) := by decide +kernel
theorem dX6_youngerFirst_97 : decode cX6_youngerFirst 97 = .ok (.iload_n 1, 1) := by decide +kernel
theorem dX6_youngerFirst_98 : decode cX6_youngerFirst 98 = .ok (.iload 4, 2) := by decide +kernel
theorem dX6_youngerFirst_100 : decode cX6_youngerFirst 100 = .ok (.ifCond .eq 9, 3) := by decide +kernel
theorem dX6_youngerFirst_103 : decode cX6_youngerFirst 103 = .ok (.iconst 1, 1) := by decide +kernel
theorem dX6_youngerFirst_104 : decode cX6_youngerFirst 104 = .ok (.iload_n 2, 1) := by decide +kernel
theorem dX6_youngerFirst_105 : decode cX6_youngerFirst 105 = .ok (.ishl, 1) := by decide +kernel
theorem dX6_youngerFirst_106 : decode cX6_youngerFirst 106 = .ok (.goto 4, 3) := by decide +kernel
theorem dX6_youngerFirst_109 : decode cX6_youngerFirst 109 = .ok (.iconst 0, 1) := by decide +kernel
theorem dX6_youngerFirst_110 : decode cX6_youngerFirst 110 = .ok (.ior, 1) := by decide +kernel
theorem dX6_youngerFirst_111 : decode cX6_youngerFirst 111 = .ok (.istore_n 1, 1) := by decide +kernel
theorem dX6_youngerFirst_112 : decode cX6_youngerFirst 112 = .ok (.iinc 2 1, 3) := by decide +kernel
theorem dX6_youngerFirst_115 : decode cX6_youngerFirst 115 = .ok (.goto (-111), 3) := by decide +kernel
theorem dX6_youngerFirst_118 : decode cX6_youngerFirst 118 = .ok (.iload_n 1, 1) := by decide +kernel
theorem dX6_youngerFirst_119 : decode cX6_youngerFirst 119 = .ok (.ireturn, 1) := by decide +kernel
theorem dX6_deedOf_0 : decode cX6_deedOf 0 = .ok (.iload_n 2, 1) := by decide +kernel
theorem dX6_deedOf_1 : decode cX6_deedOf 1 = .ok (.ifCond .ne 12, 3) := by decide +kernel
theorem dX6_deedOf_4 : decode cX6_deedOf 4 = .ok (.aload_n 0, 1) := by decide +kernel
theorem dX6_deedOf_5 : decode cX6_deedOf 5 = .ok (.getfield 13, 3) := by decide +kernel
theorem dX6_deedOf_8 : decode cX6_deedOf 8 = .ok (.iload_n 1, 1) := by decide +kernel
theorem dX6_deedOf_9 : decode cX6_deedOf 9 = .ok (.iaload, 1) := by decide +kernel
theorem dX6_deedOf_10 : decode cX6_deedOf 10 = .ok (.goto 23, 3) := by decide +kernel
theorem dX6_deedOf_13 : decode cX6_deedOf 13 = .ok (.iload_n 2, 1) := by decide +kernel
theorem dX6_deedOf_14 : decode cX6_deedOf 14 = .ok (.iconst 1, 1) := by decide +kernel
theorem dX6_deedOf_15 : decode cX6_deedOf 15 = .ok (.if_icmp .ne 10, 3) := by decide +kernel
theorem dX6_deedOf_18 : decode cX6_deedOf 18 = .ok (.aload_n 0, 1) := by decide +kernel
theorem dX6_deedOf_19 : decode cX6_deedOf 19 = .ok (.getfield 117, 3) := by decide +kernel
theorem dX6_deedOf_22 : decode cX6_deedOf 22 = .ok (.goto 7, 3) := by decide +kernel
theorem dX6_deedOf_25 : decode cX6_deedOf 25 = .ok (.aload_n 0, 1) := by decide +kernel
theorem dX6_deedOf_26 : decode cX6_deedOf 26 = .ok (.invokevirtual 134, 3) := by decide +kernel
theorem dX6_deedOf_29 : decode cX6_deedOf 29 = .ok (.iload_n 1, 1) := by decide +kernel
theorem dX6_deedOf_30 : decode cX6_deedOf 30 = .ok (.ishr, 1) := by decide +kernel
theorem dX6_deedOf_31 : decode cX6_deedOf 31 = .ok (.iconst 1, 1) := by decide +kernel
theorem dX6_deedOf_32 : decode cX6_deedOf 32 = .ok (.iand, 1) := by decide +kernel
theorem dX6_deedOf_33 : decode cX6_deedOf 33 = .ok (.ireturn, 1) := by decide +kernel
theorem dX6_deed_0 : decode cX6_deed 0 = .ok (.aload_n 0, 1) := by decide +kernel
theorem dX6_deed_1 : decode cX6_deed 1 = .ok (.iload_n 1, 1) := by decide +kernel
theorem dX6_deed_2 : decode cX6_deed 2 = .ok (.invokevirtual 137, 3) := by decide +kernel
theorem dX6_deed_5 : decode cX6_deed 5 = .ok (.ifCond .eq 21, 3) := by decide +kernel
theorem dX6_deed_8 : decode cX6_deed 8 = .ok (.iload_n 2, 1) := by decide +kernel
theorem dX6_deed_9 : decode cX6_deed 9 = .ok (.iconst 0, 1) := by decide +kernel
theorem dX6_deed_10 : decode cX6_deed 10 = .ok (.iconst 2, 1) := by decide +kernel
theorem dX6_deed_11 : decode cX6_deed 11 = .ok (.invokestatic 106, 3) := by decide +kernel
theorem dX6_deed_14 : decode cX6_deed 14 = .ok (.ifCond .eq 12, 3) := by decide +kernel
theorem dX6_deed_17 : decode cX6_deed 17 = .ok (.aload_n 0, 1) := by decide +kernel
theorem dX6_deed_18 : decode cX6_deed 18 = .ok (.iload_n 1, 1) := by decide +kernel
theorem dX6_deed_19 : decode cX6_deed 19 = .ok (.iload_n 2, 1) := by decide +kernel
theorem dX6_deed_20 : decode cX6_deed 20 = .ok (.invokevirtual 141, 3) := by decide +kernel
theorem dX6_deed_23 : decode cX6_deed 23 = .ok (.goto 5, 3) := by decide +kernel
theorem dX6_deed_26 : decode cX6_deed 26 = .ok (.bipush (-2), 2) := by decide +kernel
theorem dX6_deed_28 : decode cX6_deed 28 = .ok (.ireturn, 1) := by decide +kernel
theorem dX6_set_0 : decode cX6_set 0 = .ok (.iload_n 1, 1) := by decide +kernel
theorem dX6_set_1 : decode cX6_set 1 = .ok (.invokestatic 145, 3) := by decide +kernel
theorem dX6_set_4 : decode cX6_set 4 = .ok (.ifCond .eq 12, 3) := by decide +kernel
theorem dX6_set_7 : decode cX6_set 7 = .ok (.iload_n 2, 1) := by decide +kernel
theorem dX6_set_8 : decode cX6_set 8 = .ok (.iconst 0, 1) := by decide +kernel
theorem dX6_set_9 : decode cX6_set 9 = .ok (.iconst 2, 1) := by decide +kernel
theorem dX6_set_10 : decode cX6_set 10 = .ok (.invokestatic 106, 3) := by decide +kernel
theorem dX6_set_13 : decode cX6_set 13 = .ok (.ifCond .ne 6, 3) := by decide +kernel
theorem dX6_set_16 : decode cX6_set 16 = .ok (.bipush (-2), 2) := by decide +kernel
theorem dX6_set_18 : decode cX6_set 18 = .ok (.ireturn, 1) := by decide +kernel
theorem dX6_set_19 : decode cX6_set 19 = .ok (.iload_n 1, 1) := by decide +kernel
theorem dX6_set_20 : decode cX6_set 20 = .ok (.ifCond .ne 10, 3) := by decide +kernel
theorem dX6_set_23 : decode cX6_set 23 = .ok (.aload_n 0, 1) := by decide +kernel
theorem dX6_set_24 : decode cX6_set 24 = .ok (.getfield 131, 3) := by decide +kernel
theorem dX6_set_27 : decode cX6_set 27 = .ok (.goto 7, 3) := by decide +kernel
theorem dX6_set_30 : decode cX6_set 30 = .ok (.aload_n 0, 1) := by decide +kernel
theorem dX6_set_31 : decode cX6_set 31 = .ok (.getfield 148, 3) := by decide +kernel
theorem dX6_set_34 : decode cX6_set 34 = .ok (.istore_n 3, 1) := by decide +kernel
theorem dX6_set_35 : decode cX6_set 35 = .ok (.aload_n 0, 1) := by decide +kernel
theorem dX6_set_36 : decode cX6_set 36 = .ok (.iload_n 1, 1) := by decide +kernel
theorem dX6_set_37 : decode cX6_set 37 = .ok (.ifCond .ne 7, 3) := by decide +kernel
theorem dX6_set_40 : decode cX6_set 40 = .ok (.iload_n 2, 1) := by decide +kernel
theorem dX6_set_41 : decode cX6_set 41 = .ok (.goto 7, 3) := by decide +kernel
theorem dX6_set_44 : decode cX6_set 44 = .ok (.aload_n 0, 1) := by decide +kernel
theorem dX6_set_45 : decode cX6_set 45 = .ok (.getfield 131, 3) := by decide +kernel
theorem dX6_set_48 : decode cX6_set 48 = .ok (.putfield 131, 3) := by decide +kernel
theorem dX6_set_51 : decode cX6_set 51 = .ok (.aload_n 0, 1) := by decide +kernel
theorem dX6_set_52 : decode cX6_set 52 = .ok (.iload_n 1, 1) := by decide +kernel
theorem dX6_set_53 : decode cX6_set 53 = .ok (.iconst 1, 1) := by decide +kernel
theorem dX6_set_54 : decode cX6_set 54 = .ok (.if_icmp .ne 7, 3) := by decide +kernel
theorem dX6_set_57 : decode cX6_set 57 = .ok (.iload_n 2, 1) := by decide +kernel
theorem dX6_set_58 : decode cX6_set 58 = .ok (.goto 7, 3) := by decide +kernel
theorem dX6_set_61 : decode cX6_set 61 = .ok (.aload_n 0, 1) := by decide +kernel
theorem dX6_set_62 : decode cX6_set 62 = .ok (.getfield 148, 3) := by decide +kernel
theorem dX6_set_65 : decode cX6_set 65 = .ok (.putfield 148, 3) := by decide +kernel
theorem dX6_set_68 : decode cX6_set 68 = .ok (.iload_n 3, 1) := by decide +kernel
theorem dX6_set_69 : decode cX6_set 69 = .ok (.ireturn, 1) := by decide +kernel
theorem dX6_sick_0 : decode cX6_sick 0 = .ok (.iload_n 1, 1) := by decide +kernel
theorem dX6_sick_1 : decode cX6_sick 1 = .ok (.invokestatic 145, 3) := by decide +kernel
theorem dX6_sick_4 : decode cX6_sick 4 = .ok (.ifCond .eq 10, 3) := by decide +kernel
theorem dX6_sick_7 : decode cX6_sick 7 = .ok (.iload_n 2, 1) := by decide +kernel
theorem dX6_sick_8 : decode cX6_sick 8 = .ok (.invokestatic 151, 3) := by decide +kernel
theorem dX6_sick_11 : decode cX6_sick 11 = .ok (.ifCond .ne 6, 3) := by decide +kernel
theorem dX6_sick_14 : decode cX6_sick 14 = .ok (.bipush (-2), 2) := by decide +kernel
theorem dX6_sick_16 : decode cX6_sick 16 = .ok (.ireturn, 1) := by decide +kernel
theorem dX6_sick_17 : decode cX6_sick 17 = .ok (.aload_n 0, 1) := by decide +kernel
theorem dX6_sick_18 : decode cX6_sick 18 = .ok (.getfield 16, 3) := by decide +kernel
theorem dX6_sick_21 : decode cX6_sick 21 = .ok (.iconst 0, 1) := by decide +kernel
theorem dX6_sick_22 : decode cX6_sick 22 = .ok (.iaload, 1) := by decide +kernel
theorem dX6_sick_23 : decode cX6_sick 23 = .ok (.bipush 8, 2) := by decide +kernel
theorem dX6_sick_25 : decode cX6_sick 25 = .ok (.if_icmp .ne 6, 3) := by decide +kernel
theorem dX6_sick_28 : decode cX6_sick 28 = .ok (.bipush (-4), 2) := by decide +kernel
theorem dX6_sick_30 : decode cX6_sick 30 = .ok (.ireturn, 1) := by decide +kernel
theorem dX6_sick_31 : decode cX6_sick 31 = .ok (.aload_n 0, 1) := by decide +kernel
theorem dX6_sick_32 : decode cX6_sick 32 = .ok (.getfield 19, 3) := by decide +kernel
theorem dX6_sick_35 : decode cX6_sick 35 = .ok (.aload_n 0, 1) := by decide +kernel
theorem dX6_sick_36 : decode cX6_sick 36 = .ok (.getfield 16, 3) := by decide +kernel
theorem dX6_sick_39 : decode cX6_sick 39 = .ok (.iconst 0, 1) := by decide +kernel
theorem dX6_sick_40 : decode cX6_sick 40 = .ok (.iaload, 1) := by decide +kernel
theorem dX6_sick_41 : decode cX6_sick 41 = .ok (.iload_n 1, 1) := by decide +kernel
theorem dX6_sick_42 : decode cX6_sick 42 = .ok (.iastore, 1) := by decide +kernel
theorem dX6_sick_43 : decode cX6_sick 43 = .ok (.aload_n 0, 1) := by decide +kernel
theorem dX6_sick_44 : decode cX6_sick 44 = .ok (.getfield 22, 3) := by decide +kernel
theorem dX6_sick_47 : decode cX6_sick 47 = .ok (.aload_n 0, 1) := by decide +kernel
theorem dX6_sick_48 : decode cX6_sick 48 = .ok (.getfield 16, 3) := by decide +kernel
theorem dX6_sick_51 : decode cX6_sick 51 = .ok (.iconst 0, 1) := by decide +kernel
theorem dX6_sick_52 : decode cX6_sick 52 = .ok (.iaload, 1) := by decide +kernel
theorem dX6_sick_53 : decode cX6_sick 53 = .ok (.iload_n 2, 1) := by decide +kernel
theorem dX6_sick_54 : decode cX6_sick 54 = .ok (.iastore, 1) := by decide +kernel
theorem dX6_sick_55 : decode cX6_sick 55 = .ok (.aload_n 0, 1) := by decide +kernel
theorem dX6_sick_56 : decode cX6_sick 56 = .ok (.getfield 16, 3) := by decide +kernel
theorem dX6_sick_59 : decode cX6_sick 59 = .ok (.iconst 0, 1) := by decide +kernel
theorem dX6_sick_60 : decode cX6_sick 60 = .ok (.dup2, 1) := by decide +kernel
theorem dX6_sick_61 : decode cX6_sick 61 = .ok (.iaload, 1) := by decide +kernel
theorem dX6_sick_62 : decode cX6_sick 62 = .ok (.iconst 1, 1) := by decide +kernel
theorem dX6_sick_63 : decode cX6_sick 63 = .ok (.iadd, 1) := by decide +kernel
theorem dX6_sick_64 : decode cX6_sick 64 = .ok (.iastore, 1) := by decide +kernel
theorem dX6_sick_65 : decode cX6_sick 65 = .ok (.aload_n 0, 1) := by decide +kernel
theorem dX6_sick_66 : decode cX6_sick 66 = .ok (.getfield 16, 3) := by decide +kernel
theorem dX6_sick_69 : decode cX6_sick 69 = .ok (.iconst 0, 1) := by decide +kernel
theorem dX6_sick_70 : decode cX6_sick 70 = .ok (.iaload, 1) := by decide +kernel
theorem dX6_sick_71 : decode cX6_sick 71 = .ok (.ireturn, 1) := by decide +kernel
theorem dX6_leap_0 : decode cX6_leap 0 = .ok (.iload_n 1, 1) := by decide +kernel
theorem dX6_leap_1 : decode cX6_leap 1 = .ok (.invokestatic 151, 3) := by decide +kernel
theorem dX6_leap_4 : decode cX6_leap 4 = .ok (.ifCond .ne 6, 3) := by decide +kernel
theorem dX6_leap_7 : decode cX6_leap 7 = .ok (.bipush (-2), 2) := by decide +kernel
theorem dX6_leap_9 : decode cX6_leap 9 = .ok (.ireturn, 1) := by decide +kernel
theorem dX6_leap_10 : decode cX6_leap 10 = .ok (.aload_n 0, 1) := by decide +kernel
theorem dX6_leap_11 : decode cX6_leap 11 = .ok (.getfield 16, 3) := by decide +kernel
theorem dX6_leap_14 : decode cX6_leap 14 = .ok (.iconst 1, 1) := by decide +kernel
theorem dX6_leap_15 : decode cX6_leap 15 = .ok (.iaload, 1) := by decide +kernel
theorem dX6_leap_16 : decode cX6_leap 16 = .ok (.iconst 4, 1) := by decide +kernel
theorem dX6_leap_17 : decode cX6_leap 17 = .ok (.if_icmp .ne 6, 3) := by decide +kernel
theorem dX6_leap_20 : decode cX6_leap 20 = .ok (.bipush (-4), 2) := by decide +kernel
theorem dX6_leap_22 : decode cX6_leap 22 = .ok (.ireturn, 1) := by decide +kernel
theorem dX6_leap_23 : decode cX6_leap 23 = .ok (.aload_n 0, 1) := by decide +kernel
theorem dX6_leap_24 : decode cX6_leap 24 = .ok (.getfield 25, 3) := by decide +kernel
theorem dX6_leap_27 : decode cX6_leap 27 = .ok (.aload_n 0, 1) := by decide +kernel
theorem dX6_leap_28 : decode cX6_leap 28 = .ok (.getfield 16, 3) := by decide +kernel
theorem dX6_leap_31 : decode cX6_leap 31 = .ok (.iconst 1, 1) := by decide +kernel
theorem dX6_leap_32 : decode cX6_leap 32 = .ok (.iaload, 1) := by decide +kernel
theorem dX6_leap_33 : decode cX6_leap 33 = .ok (.iload_n 1, 1) := by decide +kernel
theorem dX6_leap_34 : decode cX6_leap 34 = .ok (.iastore, 1) := by decide +kernel
theorem dX6_leap_35 : decode cX6_leap 35 = .ok (.aload_n 0, 1) := by decide +kernel
theorem dX6_leap_36 : decode cX6_leap 36 = .ok (.getfield 16, 3) := by decide +kernel
theorem dX6_leap_39 : decode cX6_leap 39 = .ok (.iconst 1, 1) := by decide +kernel
theorem dX6_leap_40 : decode cX6_leap 40 = .ok (.dup2, 1) := by decide +kernel
theorem dX6_leap_41 : decode cX6_leap 41 = .ok (.iaload, 1) := by decide +kernel
theorem dX6_leap_42 : decode cX6_leap 42 = .ok (.iconst 1, 1) := by decide +kernel
theorem dX6_leap_43 : decode cX6_leap 43 = .ok (.iadd, 1) := by decide +kernel
theorem dX6_leap_44 : decode cX6_leap 44 = .ok (.iastore, 1) := by decide +kernel
theorem dX6_leap_45 : decode cX6_leap 45 = .ok (.aload_n 0, 1) := by decide +kernel
theorem dX6_leap_46 : decode cX6_leap 46 = .ok (.getfield 16, 3) := by decide +kernel
theorem dX6_leap_49 : decode cX6_leap 49 = .ok (.iconst 1, 1) := by decide +kernel
theorem dX6_leap_50 : decode cX6_leap 50 = .ok (.iaload, 1) := by decide +kernel
theorem dX6_leap_51 : decode cX6_leap 51 = .ok (.ireturn, 1) := by decide +kernel
theorem dX6_edict_0 : decode cX6_edict 0 = .ok (.iload_n 1, 1) := by decide +kernel
theorem dX6_edict_1 : decode cX6_edict 1 = .ok (.invokestatic 151, 3) := by decide +kernel
theorem dX6_edict_4 : decode cX6_edict 4 = .ok (.ifCond .eq 10, 3) := by decide +kernel
theorem dX6_edict_7 : decode cX6_edict 7 = .ok (.iload_n 2, 1) := by decide +kernel
theorem dX6_edict_8 : decode cX6_edict 8 = .ok (.invokestatic 154, 3) := by decide +kernel
theorem dX6_edict_11 : decode cX6_edict 11 = .ok (.ifCond .ne 6, 3) := by decide +kernel
theorem dX6_edict_14 : decode cX6_edict 14 = .ok (.bipush (-2), 2) := by decide +kernel
theorem dX6_edict_16 : decode cX6_edict 16 = .ok (.ireturn, 1) := by decide +kernel
theorem dX6_edict_17 : decode cX6_edict 17 = .ok (.aload_n 0, 1) := by decide +kernel
theorem dX6_edict_18 : decode cX6_edict 18 = .ok (.getfield 16, 3) := by decide +kernel
theorem dX6_edict_21 : decode cX6_edict 21 = .ok (.iconst 2, 1) := by decide +kernel
theorem dX6_edict_22 : decode cX6_edict 22 = .ok (.iaload, 1) := by decide +kernel
theorem dX6_edict_23 : decode cX6_edict 23 = .ok (.bipush 10, 2) := by decide +kernel
theorem dX6_edict_25 : decode cX6_edict 25 = .ok (.if_icmp .ne 6, 3) := by decide +kernel
theorem dX6_edict_28 : decode cX6_edict 28 = .ok (.bipush (-4), 2) := by decide +kernel
theorem dX6_edict_30 : decode cX6_edict 30 = .ok (.ireturn, 1) := by decide +kernel
theorem dX6_edict_31 : decode cX6_edict 31 = .ok (.aload_n 0, 1) := by decide +kernel
theorem dX6_edict_32 : decode cX6_edict 32 = .ok (.getfield 28, 3) := by decide +kernel
theorem dX6_edict_35 : decode cX6_edict 35 = .ok (.aload_n 0, 1) := by decide +kernel
theorem dX6_edict_36 : decode cX6_edict 36 = .ok (.getfield 16, 3) := by decide +kernel
theorem dX6_edict_39 : decode cX6_edict 39 = .ok (.iconst 2, 1) := by decide +kernel
theorem dX6_edict_40 : decode cX6_edict 40 = .ok (.iaload, 1) := by decide +kernel
theorem dX6_edict_41 : decode cX6_edict 41 = .ok (.iload_n 1, 1) := by decide +kernel
theorem dX6_edict_42 : decode cX6_edict 42 = .ok (.iastore, 1) := by decide +kernel
theorem dX6_edict_43 : decode cX6_edict 43 = .ok (.aload_n 0, 1) := by decide +kernel
theorem dX6_edict_44 : decode cX6_edict 44 = .ok (.getfield 31, 3) := by decide +kernel
theorem dX6_edict_47 : decode cX6_edict 47 = .ok (.aload_n 0, 1) := by decide +kernel
theorem dX6_edict_48 : decode cX6_edict 48 = .ok (.getfield 16, 3) := by decide +kernel
theorem dX6_edict_51 : decode cX6_edict 51 = .ok (.iconst 2, 1) := by decide +kernel
theorem dX6_edict_52 : decode cX6_edict 52 = .ok (.iaload, 1) := by decide +kernel
theorem dX6_edict_53 : decode cX6_edict 53 = .ok (.iload_n 2, 1) := by decide +kernel
theorem dX6_edict_54 : decode cX6_edict 54 = .ok (.iastore, 1) := by decide +kernel
theorem dX6_edict_55 : decode cX6_edict 55 = .ok (.aload_n 0, 1) := by decide +kernel
theorem dX6_edict_56 : decode cX6_edict 56 = .ok (.getfield 16, 3) := by decide +kernel
theorem dX6_edict_59 : decode cX6_edict 59 = .ok (.iconst 2, 1) := by decide +kernel
theorem dX6_edict_60 : decode cX6_edict 60 = .ok (.dup2, 1) := by decide +kernel
theorem dX6_edict_61 : decode cX6_edict 61 = .ok (.iaload, 1) := by decide +kernel
theorem dX6_edict_62 : decode cX6_edict 62 = .ok (.iconst 1, 1) := by decide +kernel
theorem dX6_edict_63 : decode cX6_edict 63 = .ok (.iadd, 1) := by decide +kernel
theorem dX6_edict_64 : decode cX6_edict 64 = .ok (.iastore, 1) := by decide +kernel
theorem dX6_edict_65 : decode cX6_edict 65 = .ok (.aload_n 0, 1) := by decide +kernel
theorem dX6_edict_66 : decode cX6_edict 66 = .ok (.getfield 16, 3) := by decide +kernel
theorem dX6_edict_69 : decode cX6_edict 69 = .ok (.iconst 2, 1) := by decide +kernel
theorem dX6_edict_70 : decode cX6_edict 70 = .ok (.iaload, 1) := by decide +kernel
theorem dX6_edict_71 : decode cX6_edict 71 = .ok (.ireturn, 1) := by decide +kernel
theorem dX6_does_0 : decode cX6_does 0 = .ok (.iload_n 1, 1) := by decide +kernel
theorem dX6_does_1 : decode cX6_does 1 = .ok (.invokestatic 151, 3) := by decide +kernel
theorem dX6_does_4 : decode cX6_does 4 = .ok (.ifCond .eq 27, 3) := by decide +kernel
theorem dX6_does_7 : decode cX6_does 7 = .ok (.iload_n 2, 1) := by decide +kernel
theorem dX6_does_8 : decode cX6_does 8 = .ok (.invokestatic 154, 3) := by decide +kernel
theorem dX6_does_11 : decode cX6_does 11 = .ok (.ifCond .eq 20, 3) := by decide +kernel
theorem dX6_does_14 : decode cX6_does 14 = .ok (.iload_n 3, 1) := by decide +kernel
theorem dX6_does_15 : decode cX6_does 15 = .ok (.iconst 1, 1) := by decide +kernel
theorem dX6_does_16 : decode cX6_does 16 = .ok (.iconst 5, 1) := by decide +kernel
theorem dX6_does_17 : decode cX6_does 17 = .ok (.invokestatic 106, 3) := by decide +kernel
theorem dX6_does_20 : decode cX6_does 20 = .ok (.ifCond .eq 11, 3) := by decide +kernel
theorem dX6_does_23 : decode cX6_does 23 = .ok (.iload_n 1, 1) := by decide +kernel
theorem dX6_does_24 : decode cX6_does 24 = .ok (.iload_n 3, 1) := by decide +kernel
theorem dX6_does_25 : decode cX6_does 25 = .ok (.iadd, 1) := by decide +kernel
theorem dX6_does_26 : decode cX6_does 26 = .ok (.bipush 40, 2) := by decide +kernel
theorem dX6_does_28 : decode cX6_does 28 = .ok (.if_icmp .le 6, 3) := by decide +kernel
theorem dX6_does_31 : decode cX6_does 31 = .ok (.bipush (-2), 2) := by decide +kernel
theorem dX6_does_33 : decode cX6_does 33 = .ok (.ireturn, 1) := by decide +kernel
theorem dX6_does_34 : decode cX6_does 34 = .ok (.aload_n 0, 1) := by decide +kernel
theorem dX6_does_35 : decode cX6_does 35 = .ok (.getfield 16, 3) := by decide +kernel
theorem dX6_does_38 : decode cX6_does 38 = .ok (.iconst 3, 1) := by decide +kernel
theorem dX6_does_39 : decode cX6_does 39 = .ok (.iaload, 1) := by decide +kernel
theorem dX6_does_40 : decode cX6_does 40 = .ok (.bipush 12, 2) := by decide +kernel
theorem dX6_does_42 : decode cX6_does 42 = .ok (.if_icmp .ne 6, 3) := by decide +kernel
theorem dX6_does_45 : decode cX6_does 45 = .ok (.bipush (-4), 2) := by decide +kernel
theorem dX6_does_47 : decode cX6_does 47 = .ok (.ireturn, 1) := by decide +kernel
theorem dX6_does_48 : decode cX6_does 48 = .ok (.aload_n 0, 1) := by decide +kernel
theorem dX6_does_49 : decode cX6_does 49 = .ok (.getfield 34, 3) := by decide +kernel
theorem dX6_does_52 : decode cX6_does 52 = .ok (.aload_n 0, 1) := by decide +kernel
theorem dX6_does_53 : decode cX6_does 53 = .ok (.getfield 16, 3) := by decide +kernel
theorem dX6_does_56 : decode cX6_does 56 = .ok (.iconst 3, 1) := by decide +kernel
theorem dX6_does_57 : decode cX6_does 57 = .ok (.iaload, 1) := by decide +kernel
theorem dX6_does_58 : decode cX6_does 58 = .ok (.iload_n 1, 1) := by decide +kernel
theorem dX6_does_59 : decode cX6_does 59 = .ok (.iastore, 1) := by decide +kernel
theorem dX6_does_60 : decode cX6_does 60 = .ok (.aload_n 0, 1) := by decide +kernel
theorem dX6_does_61 : decode cX6_does 61 = .ok (.getfield 37, 3) := by decide +kernel
theorem dX6_does_64 : decode cX6_does 64 = .ok (.aload_n 0, 1) := by decide +kernel
theorem dX6_does_65 : decode cX6_does 65 = .ok (.getfield 16, 3) := by decide +kernel
theorem dX6_does_68 : decode cX6_does 68 = .ok (.iconst 3, 1) := by decide +kernel
theorem dX6_does_69 : decode cX6_does 69 = .ok (.iaload, 1) := by decide +kernel
theorem dX6_does_70 : decode cX6_does 70 = .ok (.iload_n 2, 1) := by decide +kernel
theorem dX6_does_71 : decode cX6_does 71 = .ok (.iastore, 1) := by decide +kernel
theorem dX6_does_72 : decode cX6_does 72 = .ok (.aload_n 0, 1) := by decide +kernel
theorem dX6_does_73 : decode cX6_does 73 = .ok (.getfield 40, 3) := by decide +kernel
theorem dX6_does_76 : decode cX6_does 76 = .ok (.aload_n 0, 1) := by decide +kernel
theorem dX6_does_77 : decode cX6_does 77 = .ok (.getfield 16, 3) := by decide +kernel
theorem dX6_does_80 : decode cX6_does 80 = .ok (.iconst 3, 1) := by decide +kernel
theorem dX6_does_81 : decode cX6_does 81 = .ok (.iaload, 1) := by decide +kernel
theorem dX6_does_82 : decode cX6_does 82 = .ok (.iload_n 3, 1) := by decide +kernel
theorem dX6_does_83 : decode cX6_does 83 = .ok (.iastore, 1) := by decide +kernel
theorem dX6_does_84 : decode cX6_does 84 = .ok (.aload_n 0, 1) := by decide +kernel
theorem dX6_does_85 : decode cX6_does 85 = .ok (.getfield 16, 3) := by decide +kernel
theorem dX6_does_88 : decode cX6_does 88 = .ok (.iconst 3, 1) := by decide +kernel
theorem dX6_does_89 : decode cX6_does 89 = .ok (.dup2, 1) := by decide +kernel
theorem dX6_does_90 : decode cX6_does 90 = .ok (.iaload, 1) := by decide +kernel
theorem dX6_does_91 : decode cX6_does 91 = .ok (.iconst 1, 1) := by decide +kernel
theorem dX6_does_92 : decode cX6_does 92 = .ok (.iadd, 1) := by decide +kernel
theorem dX6_does_93 : decode cX6_does 93 = .ok (.iastore, 1) := by decide +kernel
theorem dX6_does_94 : decode cX6_does 94 = .ok (.aload_n 0, 1) := by decide +kernel
theorem dX6_does_95 : decode cX6_does 95 = .ok (.getfield 16, 3) := by decide +kernel
theorem dX6_does_98 : decode cX6_does 98 = .ok (.iconst 3, 1) := by decide +kernel
theorem dX6_does_99 : decode cX6_does 99 = .ok (.iaload, 1) := by decide +kernel
theorem dX6_does_100 : decode cX6_does 100 = .ok (.ireturn, 1) := by decide +kernel
theorem dX6_task_0 : decode cX6_task 0 = .ok (.iload_n 1, 1) := by decide +kernel
theorem dX6_task_1 : decode cX6_task 1 = .ok (.invokestatic 154, 3) := by decide +kernel
theorem dX6_task_4 : decode cX6_task 4 = .ok (.ifCond .eq 12, 3) := by decide +kernel
theorem dX6_task_7 : decode cX6_task 7 = .ok (.iload_n 2, 1) := by decide +kernel
theorem dX6_task_8 : decode cX6_task 8 = .ok (.iconst 1, 1) := by decide +kernel
theorem dX6_task_9 : decode cX6_task 9 = .ok (.iconst 5, 1) := by decide +kernel
theorem dX6_task_10 : decode cX6_task 10 = .ok (.invokestatic 106, 3) := by decide +kernel
theorem dX6_task_13 : decode cX6_task 13 = .ok (.ifCond .ne 6, 3) := by decide +kernel
theorem dX6_task_16 : decode cX6_task 16 = .ok (.bipush (-2), 2) := by decide +kernel
theorem dX6_task_18 : decode cX6_task 18 = .ok (.ireturn, 1) := by decide +kernel
theorem dX6_task_19 : decode cX6_task 19 = .ok (.aload_n 0, 1) := by decide +kernel
theorem dX6_task_20 : decode cX6_task 20 = .ok (.getfield 16, 3) := by decide +kernel
theorem dX6_task_23 : decode cX6_task 23 = .ok (.iconst 4, 1) := by decide +kernel
theorem dX6_task_24 : decode cX6_task 24 = .ok (.iaload, 1) := by decide +kernel
theorem dX6_task_25 : decode cX6_task 25 = .ok (.bipush 6, 2) := by decide +kernel
theorem dX6_task_27 : decode cX6_task 27 = .ok (.if_icmp .ne 6, 3) := by decide +kernel
theorem dX6_task_30 : decode cX6_task 30 = .ok (.bipush (-4), 2) := by decide +kernel
theorem dX6_task_32 : decode cX6_task 32 = .ok (.ireturn, 1) := by decide +kernel
theorem dX6_task_33 : decode cX6_task 33 = .ok (.aload_n 0, 1) := by decide +kernel
theorem dX6_task_34 : decode cX6_task 34 = .ok (.getfield 43, 3) := by decide +kernel
theorem dX6_task_37 : decode cX6_task 37 = .ok (.aload_n 0, 1) := by decide +kernel
theorem dX6_task_38 : decode cX6_task 38 = .ok (.getfield 16, 3) := by decide +kernel
theorem dX6_task_41 : decode cX6_task 41 = .ok (.iconst 4, 1) := by decide +kernel
theorem dX6_task_42 : decode cX6_task 42 = .ok (.iaload, 1) := by decide +kernel
theorem dX6_task_43 : decode cX6_task 43 = .ok (.iload_n 1, 1) := by decide +kernel
theorem dX6_task_44 : decode cX6_task 44 = .ok (.iastore, 1) := by decide +kernel
theorem dX6_task_45 : decode cX6_task 45 = .ok (.aload_n 0, 1) := by decide +kernel
theorem dX6_task_46 : decode cX6_task 46 = .ok (.getfield 46, 3) := by decide +kernel
theorem dX6_task_49 : decode cX6_task 49 = .ok (.aload_n 0, 1) := by decide +kernel
theorem dX6_task_50 : decode cX6_task 50 = .ok (.getfield 16, 3) := by decide +kernel
theorem dX6_task_53 : decode cX6_task 53 = .ok (.iconst 4, 1) := by decide +kernel
theorem dX6_task_54 : decode cX6_task 54 = .ok (.iaload, 1) := by decide +kernel
theorem dX6_task_55 : decode cX6_task 55 = .ok (.iload_n 2, 1) := by decide +kernel
theorem dX6_task_56 : decode cX6_task 56 = .ok (.iastore, 1) := by decide +kernel
theorem dX6_task_57 : decode cX6_task 57 = .ok (.aload_n 0, 1) := by decide +kernel
theorem dX6_task_58 : decode cX6_task 58 = .ok (.getfield 16, 3) := by decide +kernel
theorem dX6_task_61 : decode cX6_task 61 = .ok (.iconst 4, 1) := by decide +kernel
theorem dX6_task_62 : decode cX6_task 62 = .ok (.dup2, 1) := by decide +kernel
theorem dX6_task_63 : decode cX6_task 63 = .ok (.iaload, 1) := by decide +kernel
theorem dX6_task_64 : decode cX6_task 64 = .ok (.iconst 1, 1) := by decide +kernel
theorem dX6_task_65 : decode cX6_task 65 = .ok (.iadd, 1) := by decide +kernel
theorem dX6_task_66 : decode cX6_task 66 = .ok (.iastore, 1) := by decide +kernel
theorem dX6_task_67 : decode cX6_task 67 = .ok (.aload_n 0, 1) := by decide +kernel
theorem dX6_task_68 : decode cX6_task 68 = .ok (.getfield 16, 3) := by decide +kernel
theorem dX6_task_71 : decode cX6_task 71 = .ok (.iconst 4, 1) := by decide +kernel
theorem dX6_task_72 : decode cX6_task 72 = .ok (.iaload, 1) := by decide +kernel
theorem dX6_task_73 : decode cX6_task 73 = .ok (.ireturn, 1) := by decide +kernel
theorem dX6_back_0 : decode cX6_back 0 = .ok (.iload_n 1, 1) := by decide +kernel
theorem dX6_back_1 : decode cX6_back 1 = .ok (.iconst 0, 1) := by decide +kernel
theorem dX6_back_2 : decode cX6_back 2 = .ok (.iconst 4, 1) := by decide +kernel
theorem dX6_back_3 : decode cX6_back 3 = .ok (.invokestatic 106, 3) := by decide +kernel
theorem dX6_back_6 : decode cX6_back 6 = .ok (.ifCond .ne 6, 3) := by decide +kernel
theorem dX6_back_9 : decode cX6_back 9 = .ok (.bipush (-2), 2) := by decide +kernel
theorem dX6_back_11 : decode cX6_back 11 = .ok (.ireturn, 1) := by decide +kernel
theorem dX6_back_12 : decode cX6_back 12 = .ok (.aload_n 0, 1) := by decide +kernel
theorem dX6_back_13 : decode cX6_back 13 = .ok (.getfield 16, 3) := by decide +kernel
theorem dX6_back_16 : decode cX6_back 16 = .ok (.iload_n 1, 1) := by decide +kernel
theorem dX6_back_17 : decode cX6_back 17 = .ok (.iaload, 1) := by decide +kernel
theorem dX6_back_18 : decode cX6_back 18 = .ok (.ifCond .ne 6, 3) := by decide +kernel
theorem dX6_back_21 : decode cX6_back 21 = .ok (.bipush (-3), 2) := by decide +kernel
theorem dX6_back_23 : decode cX6_back 23 = .ok (.ireturn, 1) := by decide +kernel
theorem dX6_back_24 : decode cX6_back 24 = .ok (.aload_n 0, 1) := by decide +kernel
theorem dX6_back_25 : decode cX6_back 25 = .ok (.getfield 16, 3) := by decide +kernel
theorem dX6_back_28 : decode cX6_back 28 = .ok (.iload_n 1, 1) := by decide +kernel
theorem dX6_back_29 : decode cX6_back 29 = .ok (.dup2, 1) := by decide +kernel
theorem dX6_back_30 : decode cX6_back 30 = .ok (.iaload, 1) := by decide +kernel
theorem dX6_back_31 : decode cX6_back 31 = .ok (.iconst 1, 1) := by decide +kernel
theorem dX6_back_32 : decode cX6_back 32 = .ok (.isub, 1) := by decide +kernel
theorem dX6_back_33 : decode cX6_back 33 = .ok (.iastore, 1) := by decide +kernel
theorem dX6_back_34 : decode cX6_back 34 = .ok (.aload_n 0, 1) := by decide +kernel
theorem dX6_back_35 : decode cX6_back 35 = .ok (.getfield 16, 3) := by decide +kernel
theorem dX6_back_38 : decode cX6_back 38 = .ok (.iload_n 1, 1) := by decide +kernel
theorem dX6_back_39 : decode cX6_back 39 = .ok (.iaload, 1) := by decide +kernel
theorem dX6_back_40 : decode cX6_back 40 = .ok (.ireturn, 1) := by decide +kernel
theorem dX6_read_0 : decode cX6_read 0 = .ok (.iload_n 1, 1) := by decide +kernel
theorem dX6_read_1 : decode cX6_read 1 = .ok (.invokestatic 157, 3) := by decide +kernel
theorem dX6_read_4 : decode cX6_read 4 = .ok (.ifCond .ne 6, 3) := by decide +kernel
theorem dX6_read_7 : decode cX6_read 7 = .ok (.bipush (-2), 2) := by decide +kernel
theorem dX6_read_9 : decode cX6_read 9 = .ok (.ireturn, 1) := by decide +kernel
theorem dX6_read_10 : decode cX6_read 10 = .ok (.aload_n 0, 1) := by decide +kernel
theorem dX6_read_11 : decode cX6_read 11 = .ok (.getfield 88, 3) := by decide +kernel
theorem dX6_read_14 : decode cX6_read 14 = .ok (.iload_n 1, 1) := by decide +kernel
theorem dX6_read_15 : decode cX6_read 15 = .ok (.baload, 1) := by decide +kernel
theorem dX6_read_16 : decode cX6_read 16 = .ok (.ifCond .ne 9, 3) := by decide +kernel
theorem dX6_read_19 : decode cX6_read 19 = .ok (.aload_n 0, 1) := by decide +kernel
theorem dX6_read_20 : decode cX6_read 20 = .ok (.iconst 1, 1) := by decide +kernel
theorem dX6_read_21 : decode cX6_read 21 = .ok (.invokevirtual 160, 3) := by decide +kernel
theorem dX6_read_24 : decode cX6_read 24 = .ok (.ireturn, 1) := by decide +kernel
theorem dX6_read_25 : decode cX6_read 25 = .ok (.iconst 0, 1) := by decide +kernel
theorem dX6_read_26 : decode cX6_read 26 = .ok (.istore_n 2, 1) := by decide +kernel
theorem dX6_read_27 : decode cX6_read 27 = .ok (.iconst 2, 1) := by decide +kernel
theorem dX6_read_28 : decode cX6_read 28 = .ok (.iload_n 2, 1) := by decide +kernel
theorem dX6_read_29 : decode cX6_read 29 = .ok (.imul, 1) := by decide +kernel
theorem dX6_read_30 : decode cX6_read 30 = .ok (.iconst 1, 1) := by decide +kernel
theorem dX6_read_31 : decode cX6_read 31 = .ok (.iadd, 1) := by decide +kernel
theorem dX6_read_32 : decode cX6_read 32 = .ok (.aload_n 0, 1) := by decide +kernel
theorem dX6_read_33 : decode cX6_read 33 = .ok (.getfield 95, 3) := by decide +kernel
theorem dX6_read_36 : decode cX6_read 36 = .ok (.iload_n 1, 1) := by decide +kernel
theorem dX6_read_37 : decode cX6_read 37 = .ok (.iaload, 1) := by decide +kernel
theorem dX6_read_38 : decode cX6_read 38 = .ok (.if_icmp .ge 44, 3) := by decide +kernel
theorem dX6_read_41 : decode cX6_read 41 = .ok (.aload_n 0, 1) := by decide +kernel
theorem dX6_read_42 : decode cX6_read 42 = .ok (.aload_n 0, 1) := by decide +kernel
theorem dX6_read_43 : decode cX6_read 43 = .ok (.getfield 98, 3) := by decide +kernel
theorem dX6_read_46 : decode cX6_read 46 = .ok (.bipush 60, 2) := by decide +kernel
theorem dX6_read_48 : decode cX6_read 48 = .ok (.iload_n 1, 1) := by decide +kernel
theorem dX6_read_49 : decode cX6_read 49 = .ok (.imul, 1) := by decide +kernel
theorem dX6_read_50 : decode cX6_read 50 = .ok (.iconst 2, 1) := by decide +kernel
theorem dX6_read_51 : decode cX6_read 51 = .ok (.iload_n 2, 1) := by decide +kernel
theorem dX6_read_52 : decode cX6_read 52 = .ok (.imul, 1) := by decide +kernel
theorem dX6_read_53 : decode cX6_read 53 = .ok (.iadd, 1) := by decide +kernel
theorem dX6_read_54 : decode cX6_read 54 = .ok (.iaload, 1) := by decide +kernel
theorem dX6_read_55 : decode cX6_read 55 = .ok (.aload_n 0, 1) := by decide +kernel
theorem dX6_read_56 : decode cX6_read 56 = .ok (.getfield 98, 3) := by decide +kernel
theorem dX6_read_59 : decode cX6_read 59 = .ok (.bipush 60, 2) := by decide +kernel
theorem dX6_read_61 : decode cX6_read 61 = .ok (.iload_n 1, 1) := by decide +kernel
theorem dX6_read_62 : decode cX6_read 62 = .ok (.imul, 1) := by decide +kernel
theorem dX6_read_63 : decode cX6_read 63 = .ok (.iconst 2, 1) := by decide +kernel
theorem dX6_read_64 : decode cX6_read 64 = .ok (.iload_n 2, 1) := by decide +kernel
theorem dX6_read_65 : decode cX6_read 65 = .ok (.imul, 1) := by decide +kernel
theorem dX6_read_66 : decode cX6_read 66 = .ok (.iadd, 1) := by decide +kernel
theorem dX6_read_67 : decode cX6_read 67 = .ok (.iconst 1, 1) := by decide +kernel
theorem dX6_read_68 : decode cX6_read 68 = .ok (.iadd, 1) := by decide +kernel
theorem dX6_read_69 : decode cX6_read 69 = .ok (.iaload, 1) := by decide +kernel
theorem dX6_read_70 : decode cX6_read 70 = .ok (.invokevirtual 164, 3) := by decide +kernel
theorem dX6_read_73 : decode cX6_read 73 = .ok (.ifCond .le 9, 3) := by decide +kernel
theorem dX6_read_76 : decode cX6_read 76 = .ok (.iinc 2 1, 3) := by decide +kernel
theorem dX6_read_79 : decode cX6_read 79 = .ok (.goto (-52), 3) := by decide +kernel
theorem dX6_read_82 : decode cX6_read 82 = .ok (.iload_n 2, 1) := by decide +kernel
theorem dX6_read_83 : decode cX6_read 83 = .ok (.ireturn, 1) := by decide +kernel
theorem dX6_isSick_0 : decode cX6_isSick 0 = .ok (.iconst 0, 1) := by decide +kernel
theorem dX6_isSick_1 : decode cX6_isSick 1 = .ok (.istore_n 3, 1) := by decide +kernel
theorem dX6_isSick_2 : decode cX6_isSick 2 = .ok (.iconst 0, 1) := by decide +kernel
theorem dX6_isSick_3 : decode cX6_isSick 3 = .ok (.istore 4, 2) := by decide +kernel
theorem dX6_isSick_5 : decode cX6_isSick 5 = .ok (.iload 4, 2) := by decide +kernel
theorem dX6_isSick_7 : decode cX6_isSick 7 = .ok (.aload_n 0, 1) := by decide +kernel
theorem dX6_isSick_8 : decode cX6_isSick 8 = .ok (.getfield 16, 3) := by decide +kernel
theorem dX6_isSick_11 : decode cX6_isSick 11 = .ok (.iconst 0, 1) := by decide +kernel
theorem dX6_isSick_12 : decode cX6_isSick 12 = .ok (.iaload, 1) := by decide +kernel
theorem dX6_isSick_13 : decode cX6_isSick 13 = .ok (.if_icmp .ge 41, 3) := by decide +kernel
theorem dX6_isSick_16 : decode cX6_isSick 16 = .ok (.iload_n 3, 1) := by decide +kernel
theorem dX6_isSick_17 : decode cX6_isSick 17 = .ok (.ifCond .ne 25, 3) := by decide +kernel
theorem dX6_isSick_20 : decode cX6_isSick 20 = .ok (.aload_n 0, 1) := by decide +kernel
theorem dX6_isSick_21 : decode cX6_isSick 21 = .ok (.getfield 19, 3) := by decide +kernel
theorem dX6_isSick_24 : decode cX6_isSick 24 = .ok (.iload 4, 2) := by decide +kernel
theorem dX6_isSick_26 : decode cX6_isSick 26 = .ok (.iaload, 1) := by decide +kernel
theorem dX6_isSick_27 : decode cX6_isSick 27 = .ok (.iload_n 1, 1) := by decide +kernel
theorem dX6_isSick_28 : decode cX6_isSick 28 = .ok (.if_icmp .ne 18, 3) := by decide +kernel
theorem dX6_isSick_31 : decode cX6_isSick 31 = .ok (.aload_n 0, 1) := by decide +kernel
theorem dX6_isSick_32 : decode cX6_isSick 32 = .ok (.getfield 22, 3) := by decide +kernel
theorem dX6_isSick_35 : decode cX6_isSick 35 = .ok (.iload 4, 2) := by decide +kernel
theorem dX6_isSick_37 : decode cX6_isSick 37 = .ok (.iaload, 1) := by decide +kernel
theorem dX6_isSick_38 : decode cX6_isSick 38 = .ok (.iload_n 2, 1) := by decide +kernel
theorem dX6_isSick_39 : decode cX6_isSick 39 = .ok (.if_icmp .ne 7, 3) := by decide +kernel
theorem dX6_isSick_42 : decode cX6_isSick 42 = .ok (.iconst 1, 1) := by decide +kernel
theorem dX6_isSick_43 : decode cX6_isSick 43 = .ok (.goto 4, 3) := by decide +kernel
theorem dX6_isSick_46 : decode cX6_isSick 46 = .ok (.iconst 0, 1) := by decide +kernel
theorem dX6_isSick_47 : decode cX6_isSick 47 = .ok (.istore_n 3, 1) := by decide +kernel
theorem dX6_isSick_48 : decode cX6_isSick 48 = .ok (.iinc 4 1, 3) := by decide +kernel
theorem dX6_isSick_51 : decode cX6_isSick 51 = .ok (.goto (-46), 3) := by decide +kernel
theorem dX6_isSick_54 : decode cX6_isSick 54 = .ok (.iload_n 3, 1) := by decide +kernel
theorem dX6_isSick_55 : decode cX6_isSick 55 = .ok (.ireturn, 1) := by decide +kernel
theorem dX6_isLeap_0 : decode cX6_isLeap 0 = .ok (.iconst 0, 1) := by decide +kernel
theorem dX6_isLeap_1 : decode cX6_isLeap 1 = .ok (.istore_n 2, 1) := by decide +kernel
theorem dX6_isLeap_2 : decode cX6_isLeap 2 = .ok (.iconst 0, 1) := by decide +kernel
theorem dX6_isLeap_3 : decode cX6_isLeap 3 = .ok (.istore_n 3, 1) := by decide +kernel
theorem dX6_isLeap_4 : decode cX6_isLeap 4 = .ok (.iload_n 3, 1) := by decide +kernel
theorem dX6_isLeap_5 : decode cX6_isLeap 5 = .ok (.aload_n 0, 1) := by decide +kernel
theorem dX6_isLeap_6 : decode cX6_isLeap 6 = .ok (.getfield 16, 3) := by decide +kernel
theorem dX6_isLeap_9 : decode cX6_isLeap 9 = .ok (.iconst 1, 1) := by decide +kernel
theorem dX6_isLeap_10 : decode cX6_isLeap 10 = .ok (.iaload, 1) := by decide +kernel
theorem dX6_isLeap_11 : decode cX6_isLeap 11 = .ok (.if_icmp .ge 29, 3) := by decide +kernel
theorem dX6_isLeap_14 : decode cX6_isLeap 14 = .ok (.iload_n 2, 1) := by decide +kernel
theorem dX6_isLeap_15 : decode cX6_isLeap 15 = .ok (.ifCond .ne 13, 3) := by decide +kernel
theorem dX6_isLeap_18 : decode cX6_isLeap 18 = .ok (.aload_n 0, 1) := by decide +kernel
theorem dX6_isLeap_19 : decode cX6_isLeap 19 = .ok (.getfield 25, 3) := by decide +kernel
theorem dX6_isLeap_22 : decode cX6_isLeap 22 = .ok (.iload_n 3, 1) := by decide +kernel
theorem dX6_isLeap_23 : decode cX6_isLeap 23 = .ok (.iaload, 1) := by decide +kernel
theorem dX6_isLeap_24 : decode cX6_isLeap 24 = .ok (.iload_n 1, 1) := by decide +kernel
theorem dX6_isLeap_25 : decode cX6_isLeap 25 = .ok (.if_icmp .ne 7, 3) := by decide +kernel
theorem dX6_isLeap_28 : decode cX6_isLeap 28 = .ok (.iconst 1, 1) := by decide +kernel
theorem dX6_isLeap_29 : decode cX6_isLeap 29 = .ok (.goto 4, 3) := by decide +kernel
theorem dX6_isLeap_32 : decode cX6_isLeap 32 = .ok (.iconst 0, 1) := by decide +kernel
theorem dX6_isLeap_33 : decode cX6_isLeap 33 = .ok (.istore_n 2, 1) := by decide +kernel
theorem dX6_isLeap_34 : decode cX6_isLeap 34 = .ok (.iinc 3 1, 3) := by decide +kernel
theorem dX6_isLeap_37 : decode cX6_isLeap 37 = .ok (.goto (-33), 3) := by decide +kernel
theorem dX6_isLeap_40 : decode cX6_isLeap 40 = .ok (.iload_n 2, 1) := by decide +kernel
theorem dX6_isLeap_41 : decode cX6_isLeap 41 = .ok (.ireturn, 1) := by decide +kernel
theorem dX6_rulesOf_0 : decode cX6_rulesOf 0 = .ok (.iload_n 1, 1) := by decide +kernel
theorem dX6_rulesOf_1 : decode cX6_rulesOf 1 = .ok (.iconst 2, 1) := by decide +kernel
theorem dX6_rulesOf_2 : decode cX6_rulesOf 2 = .ok (.irem, 1) := by decide +kernel
theorem dX6_rulesOf_3 : decode cX6_rulesOf 3 = .ok (.istore_n 2, 1) := by decide +kernel
theorem dX6_rulesOf_4 : decode cX6_rulesOf 4 = .ok (.aload_n 0, 1) := by decide +kernel
theorem dX6_rulesOf_5 : decode cX6_rulesOf 5 = .ok (.iload_n 1, 1) := by decide +kernel
theorem dX6_rulesOf_6 : decode cX6_rulesOf 6 = .ok (.invokevirtual 167, 3) := by decide +kernel
theorem dX6_rulesOf_9 : decode cX6_rulesOf 9 = .ok (.ifCond .eq 5, 3) := by decide +kernel
theorem dX6_rulesOf_12 : decode cX6_rulesOf 12 = .ok (.iconst 2, 1) := by decide +kernel
theorem dX6_rulesOf_13 : decode cX6_rulesOf 13 = .ok (.ireturn, 1) := by decide +kernel
theorem dX6_rulesOf_14 : decode cX6_rulesOf 14 = .ok (.iload_n 1, 1) := by decide +kernel
theorem dX6_rulesOf_15 : decode cX6_rulesOf 15 = .ok (.bipush 7, 2) := by decide +kernel
theorem dX6_rulesOf_17 : decode cX6_rulesOf 17 = .ok (.irem, 1) := by decide +kernel
theorem dX6_rulesOf_18 : decode cX6_rulesOf 18 = .ok (.bipush 6, 2) := by decide +kernel
theorem dX6_rulesOf_20 : decode cX6_rulesOf 20 = .ok (.if_icmp .ne 5, 3) := by decide +kernel
theorem dX6_rulesOf_23 : decode cX6_rulesOf 23 = .ok (.iconst (-1), 1) := by decide +kernel
theorem dX6_rulesOf_24 : decode cX6_rulesOf 24 = .ok (.ireturn, 1) := by decide +kernel
theorem dX6_rulesOf_25 : decode cX6_rulesOf 25 = .ok (.aload_n 0, 1) := by decide +kernel
theorem dX6_rulesOf_26 : decode cX6_rulesOf 26 = .ok (.iload_n 2, 1) := by decide +kernel
theorem dX6_rulesOf_27 : decode cX6_rulesOf 27 = .ok (.iload_n 1, 1) := by decide +kernel
theorem dX6_rulesOf_28 : decode cX6_rulesOf 28 = .ok (.invokevirtual 170, 3) := by decide +kernel
theorem dX6_rulesOf_31 : decode cX6_rulesOf 31 = .ok (.ifCond .ne 7, 3) := by decide +kernel
theorem dX6_rulesOf_34 : decode cX6_rulesOf 34 = .ok (.iload_n 2, 1) := by decide +kernel
theorem dX6_rulesOf_35 : decode cX6_rulesOf 35 = .ok (.goto 21, 3) := by decide +kernel
theorem dX6_rulesOf_38 : decode cX6_rulesOf 38 = .ok (.aload_n 0, 1) := by decide +kernel
theorem dX6_rulesOf_39 : decode cX6_rulesOf 39 = .ok (.iconst 1, 1) := by decide +kernel
theorem dX6_rulesOf_40 : decode cX6_rulesOf 40 = .ok (.iload_n 2, 1) := by decide +kernel
theorem dX6_rulesOf_41 : decode cX6_rulesOf 41 = .ok (.isub, 1) := by decide +kernel
theorem dX6_rulesOf_42 : decode cX6_rulesOf 42 = .ok (.iload_n 1, 1) := by decide +kernel
theorem dX6_rulesOf_43 : decode cX6_rulesOf 43 = .ok (.invokevirtual 170, 3) := by decide +kernel
theorem dX6_rulesOf_46 : decode cX6_rulesOf 46 = .ok (.ifCond .ne 9, 3) := by decide +kernel
theorem dX6_rulesOf_49 : decode cX6_rulesOf 49 = .ok (.iconst 1, 1) := by decide +kernel
theorem dX6_rulesOf_50 : decode cX6_rulesOf 50 = .ok (.iload_n 2, 1) := by decide +kernel
theorem dX6_rulesOf_51 : decode cX6_rulesOf 51 = .ok (.isub, 1) := by decide +kernel
theorem dX6_rulesOf_52 : decode cX6_rulesOf 52 = .ok (.goto 4, 3) := by decide +kernel
theorem dX6_rulesOf_55 : decode cX6_rulesOf 55 = .ok (.iconst (-1), 1) := by decide +kernel
theorem dX6_rulesOf_56 : decode cX6_rulesOf 56 = .ok (.ireturn, 1) := by decide +kernel
theorem dX6_rules_0 : decode cX6_rules 0 = .ok (.iload_n 1, 1) := by decide +kernel
theorem dX6_rules_1 : decode cX6_rules 1 = .ok (.invokestatic 151, 3) := by decide +kernel
theorem dX6_rules_4 : decode cX6_rules 4 = .ok (.ifCond .eq 11, 3) := by decide +kernel
theorem dX6_rules_7 : decode cX6_rules 7 = .ok (.aload_n 0, 1) := by decide +kernel
theorem dX6_rules_8 : decode cX6_rules 8 = .ok (.iload_n 1, 1) := by decide +kernel
theorem dX6_rules_9 : decode cX6_rules 9 = .ok (.invokevirtual 173, 3) := by decide +kernel
theorem dX6_rules_12 : decode cX6_rules 12 = .ok (.goto 5, 3) := by decide +kernel
theorem dX6_rules_15 : decode cX6_rules 15 = .ok (.bipush (-2), 2) := by decide +kernel
theorem dX6_rules_17 : decode cX6_rules 17 = .ok (.ireturn, 1) := by decide +kernel
theorem dX6_asTold_0 : decode cX6_asTold 0 = .ok (.aload_n 0, 1) := by decide +kernel
theorem dX6_asTold_1 : decode cX6_asTold 1 = .ok (.iconst (-1), 1) := by decide +kernel
theorem dX6_asTold_2 : decode cX6_asTold 2 = .ok (.putfield 176, 3) := by decide +kernel
theorem dX6_asTold_5 : decode cX6_asTold 5 = .ok (.aload_n 0, 1) := by decide +kernel
theorem dX6_asTold_6 : decode cX6_asTold 6 = .ok (.iconst 0, 1) := by decide +kernel
theorem dX6_asTold_7 : decode cX6_asTold 7 = .ok (.putfield 179, 3) := by decide +kernel
theorem dX6_asTold_10 : decode cX6_asTold 10 = .ok (.return_, 1) := by decide +kernel
theorem dX6_lays_0 : decode cX6_lays 0 = .ok (.aload_n 0, 1) := by decide +kernel
theorem dX6_lays_1 : decode cX6_lays 1 = .ok (.getfield 117, 3) := by decide +kernel
theorem dX6_lays_4 : decode cX6_lays 4 = .ok (.istore_n 1, 1) := by decide +kernel
theorem dX6_lays_5 : decode cX6_lays 5 = .ok (.aload_n 0, 1) := by decide +kernel
theorem dX6_lays_6 : decode cX6_lays 6 = .ok (.invokevirtual 134, 3) := by decide +kernel
theorem dX6_lays_9 : decode cX6_lays 9 = .ok (.istore_n 2, 1) := by decide +kernel
theorem dX6_lays_10 : decode cX6_lays 10 = .ok (.iconst 0, 1) := by decide +kernel
theorem dX6_lays_11 : decode cX6_lays 11 = .ok (.istore_n 3, 1) := by decide +kernel
theorem dX6_lays_12 : decode cX6_lays 12 = .ok (.iload_n 3, 1) := by decide +kernel
theorem dX6_lays_13 : decode cX6_lays 13 = .ok (.bipush 40, 2) := by decide +kernel
theorem dX6_lays_15 : decode cX6_lays 15 = .ok (.if_icmp .ge 274, 3) := by decide +kernel
theorem dX6_lays_18 : decode cX6_lays 18 = .ok (.aload_n 0, 1) := by decide +kernel
theorem dX6_lays_19 : decode cX6_lays 19 = .ok (.iload_n 3, 1) := by decide +kernel
theorem dX6_lays_20 : decode cX6_lays 20 = .ok (.invokevirtual 173, 3) := by decide +kernel
theorem dX6_lays_23 : decode cX6_lays 23 = .ok (.istore 4, 2) := by decide +kernel
theorem dX6_lays_25 : decode cX6_lays 25 = .ok (.aload_n 0, 1) := by decide +kernel
theorem dX6_lays_26 : decode cX6_lays 26 = .ok (.getfield 49, 3) := by decide +kernel
theorem dX6_lays_29 : decode cX6_lays 29 = .ok (.iload_n 3, 1) := by decide +kernel
theorem dX6_lays_30 : decode cX6_lays 30 = .ok (.iload 4, 2) := by decide +kernel
theorem dX6_lays_32 : decode cX6_lays 32 = .ok (.iastore, 1) := by decide +kernel
theorem dX6_lays_33 : decode cX6_lays 33 = .ok (.aload_n 0, 1) := by decide +kernel
theorem dX6_lays_34 : decode cX6_lays 34 = .ok (.getfield 52, 3) := by decide +kernel
theorem dX6_lays_37 : decode cX6_lays 37 = .ok (.iload_n 3, 1) := by decide +kernel
theorem dX6_lays_38 : decode cX6_lays 38 = .ok (.iload_n 1, 1) := by decide +kernel
theorem dX6_lays_39 : decode cX6_lays 39 = .ok (.iastore, 1) := by decide +kernel
theorem dX6_lays_40 : decode cX6_lays 40 = .ok (.aload_n 0, 1) := by decide +kernel
theorem dX6_lays_41 : decode cX6_lays 41 = .ok (.getfield 52, 3) := by decide +kernel
theorem dX6_lays_44 : decode cX6_lays 44 = .ok (.bipush 40, 2) := by decide +kernel
theorem dX6_lays_46 : decode cX6_lays 46 = .ok (.iload_n 3, 1) := by decide +kernel
theorem dX6_lays_47 : decode cX6_lays 47 = .ok (.iadd, 1) := by decide +kernel
theorem dX6_lays_48 : decode cX6_lays 48 = .ok (.iload_n 2, 1) := by decide +kernel
theorem dX6_lays_49 : decode cX6_lays 49 = .ok (.iastore, 1) := by decide +kernel
theorem dX6_lays_50 : decode cX6_lays 50 = .ok (.aload_n 0, 1) := by decide +kernel
theorem dX6_lays_51 : decode cX6_lays 51 = .ok (.invokevirtual 182, 3) := by decide +kernel
theorem dX6_lays_54 : decode cX6_lays 54 = .ok (.istore 5, 2) := by decide +kernel
theorem dX6_lays_56 : decode cX6_lays 56 = .ok (.iload 5, 2) := by decide +kernel
theorem dX6_lays_58 : decode cX6_lays 58 = .ok (.iload 4, 2) := by decide +kernel
theorem dX6_lays_60 : decode cX6_lays 60 = .ok (.ifCond .eq 9, 3) := by decide +kernel
theorem dX6_lays_63 : decode cX6_lays 63 = .ok (.iload 4, 2) := by decide +kernel
theorem dX6_lays_65 : decode cX6_lays 65 = .ok (.iconst 2, 1) := by decide +kernel
theorem dX6_lays_66 : decode cX6_lays 66 = .ok (.if_icmp .ne 7, 3) := by decide +kernel
theorem dX6_lays_69 : decode cX6_lays 69 = .ok (.iload_n 1, 1) := by decide +kernel
theorem dX6_lays_70 : decode cX6_lays 70 = .ok (.goto 5, 3) := by decide +kernel
theorem dX6_lays_73 : decode cX6_lays 73 = .ok (.iload 5, 2) := by decide +kernel
theorem dX6_lays_75 : decode cX6_lays 75 = .ok (.iand, 1) := by decide +kernel
theorem dX6_lays_76 : decode cX6_lays 76 = .ok (.istore 5, 2) := by decide +kernel
theorem dX6_lays_78 : decode cX6_lays 78 = .ok (.iload 5, 2) := by decide +kernel
theorem dX6_lays_80 : decode cX6_lays 80 = .ok (.iload 4, 2) := by decide +kernel
theorem dX6_lays_82 : decode cX6_lays 82 = .ok (.iconst 1, 1) := by decide +kernel
theorem dX6_lays_83 : decode cX6_lays 83 = .ok (.if_icmp .eq 9, 3) := by decide +kernel
theorem dX6_lays_86 : decode cX6_lays 86 = .ok (.iload 4, 2) := by decide +kernel
theorem dX6_lays_88 : decode cX6_lays 88 = .ok (.iconst 2, 1) := by decide +kernel
theorem dX6_lays_89 : decode cX6_lays 89 = .ok (.if_icmp .ne 7, 3) := by decide +kernel
theorem dX6_lays_92 : decode cX6_lays 92 = .ok (.iload_n 2, 1) := by decide +kernel
theorem dX6_lays_93 : decode cX6_lays 93 = .ok (.goto 5, 3) := by decide +kernel
theorem dX6_lays_96 : decode cX6_lays 96 = .ok (.iload 5, 2) := by decide +kernel
theorem dX6_lays_98 : decode cX6_lays 98 = .ok (.iand, 1) := by decide +kernel
theorem dX6_lays_99 : decode cX6_lays 99 = .ok (.istore 5, 2) := by decide +kernel
theorem dX6_lays_101 : decode cX6_lays 101 = .ok (.aload_n 0, 1) := by decide +kernel
theorem dX6_lays_102 : decode cX6_lays 102 = .ok (.getfield 55, 3) := by decide +kernel
theorem dX6_lays_105 : decode cX6_lays 105 = .ok (.iload_n 3, 1) := by decide +kernel
theorem dX6_lays_106 : decode cX6_lays 106 = .ok (.iload 5, 2) := by decide +kernel
theorem dX6_lays_108 : decode cX6_lays 108 = .ok (.iastore, 1) := by decide +kernel
theorem dX6_lays_109 : decode cX6_lays 109 = .ok (.iconst 0, 1) := by decide +kernel
theorem dX6_lays_110 : decode cX6_lays 110 = .ok (.istore 6, 2) := by decide +kernel
theorem dX6_lays_112 : decode cX6_lays 112 = .ok (.iconst 0, 1) := by decide +kernel
theorem dX6_lays_113 : decode cX6_lays 113 = .ok (.istore 7, 2) := by decide +kernel
theorem dX6_lays_115 : decode cX6_lays 115 = .ok (.iload 7, 2) := by decide +kernel
theorem dX6_lays_117 : decode cX6_lays 117 = .ok (.aload_n 0, 1) := by decide +kernel
theorem dX6_lays_118 : decode cX6_lays 118 = .ok (.getfield 16, 3) := by decide +kernel
theorem dX6_lays_121 : decode cX6_lays 121 = .ok (.iconst 2, 1) := by decide +kernel
theorem dX6_lays_122 : decode cX6_lays 122 = .ok (.iaload, 1) := by decide +kernel
theorem dX6_lays_123 : decode cX6_lays 123 = .ok (.if_icmp .ge 61, 3) := by decide +kernel
theorem dX6_lays_126 : decode cX6_lays 126 = .ok (.iload 6, 2) := by decide +kernel
theorem dX6_lays_128 : decode cX6_lays 128 = .ok (.aload_n 0, 1) := by decide +kernel
theorem dX6_lays_129 : decode cX6_lays 129 = .ok (.getfield 28, 3) := by decide +kernel
theorem dX6_lays_132 : decode cX6_lays 132 = .ok (.iload 7, 2) := by decide +kernel
theorem dX6_lays_134 : decode cX6_lays 134 = .ok (.iaload, 1) := by decide +kernel
theorem dX6_lays_135 : decode cX6_lays 135 = .ok (.iload_n 3, 1) := by decide +kernel
theorem dX6_lays_136 : decode cX6_lays 136 = .ok (.if_icmp .ne 38, 3) := by decide +kernel
theorem dX6_lays_139 : decode cX6_lays 139 = .ok (.iload 7, 2) := by decide +kernel
theorem dX6_lays_141 : decode cX6_lays 141 = .ok (.aload_n 0, 1) := by decide +kernel
theorem dX6_lays_142 : decode cX6_lays 142 = .ok (.getfield 176, 3) := by decide +kernel
theorem dX6_lays_145 : decode cX6_lays 145 = .ok (.if_icmp .eq 29, 3) := by decide +kernel
theorem dX6_lays_148 : decode cX6_lays 148 = .ok (.aload_n 0, 1) := by decide +kernel
theorem dX6_lays_149 : decode cX6_lays 149 = .ok (.getfield 31, 3) := by decide +kernel
theorem dX6_lays_152 : decode cX6_lays 152 = .ok (.iload 7, 2) := by decide +kernel
theorem dX6_lays_154 : decode cX6_lays 154 = .ok (.iaload, 1) := by decide +kernel
theorem dX6_lays_155 : decode cX6_lays 155 = .ok (.aload_n 0, 1) := by decide +kernel
theorem dX6_lays_156 : decode cX6_lays 156 = .ok (.getfield 114, 3) := by decide +kernel
theorem dX6_lays_159 : decode cX6_lays 159 = .ok (.if_icmp .ge 15, 3) := by decide +kernel
theorem dX6_lays_162 : decode cX6_lays 162 = .ok (.iconst 1, 1) := by decide +kernel
theorem dX6_lays_163 : decode cX6_lays 163 = .ok (.aload_n 0, 1) := by decide +kernel
theorem dX6_lays_164 : decode cX6_lays 164 = .ok (.getfield 31, 3) := by decide +kernel
theorem dX6_lays_167 : decode cX6_lays 167 = .ok (.iload 7, 2) := by decide +kernel
theorem dX6_lays_169 : decode cX6_lays 169 = .ok (.iaload, 1) := by decide +kernel
theorem dX6_lays_170 : decode cX6_lays 170 = .ok (.ishl, 1) := by decide +kernel
theorem dX6_lays_171 : decode cX6_lays 171 = .ok (.goto 4, 3) := by decide +kernel
theorem dX6_lays_174 : decode cX6_lays 174 = .ok (.iconst 0, 1) := by decide +kernel
theorem dX6_lays_175 : decode cX6_lays 175 = .ok (.ixor, 1) := by decide +kernel
theorem dX6_lays_176 : decode cX6_lays 176 = .ok (.istore 6, 2) := by decide +kernel
theorem dX6_lays_178 : decode cX6_lays 178 = .ok (.iinc 7 1, 3) := by decide +kernel
theorem dX6_lays_181 : decode cX6_lays 181 = .ok (.goto (-66), 3) := by decide +kernel
theorem dX6_lays_184 : decode cX6_lays 184 = .ok (.iload_n 3, 1) := by decide +kernel
theorem dX6_lays_185 : decode cX6_lays 185 = .ok (.aload_n 0, 1) := by decide +kernel
theorem dX6_lays_186 : decode cX6_lays 186 = .ok (.getfield 185, 3) := by decide +kernel
theorem dX6_lays_189 : decode cX6_lays 189 = .ok (.isub, 1) := by decide +kernel
theorem dX6_lays_190 : decode cX6_lays 190 = .ok (.istore 7, 2) := by decide +kernel
theorem dX6_lays_192 : decode cX6_lays 192 = .ok (.iload 7, 2) := by decide +kernel
theorem dX6_lays_194 : decode cX6_lays 194 = .ok (.ifCond .lt 48, 3) := by decide +kernel
theorem dX6_lays_197 : decode cX6_lays 197 = .ok (.iload 7, 2) := by decide +kernel
theorem dX6_lays_199 : decode cX6_lays 199 = .ok (.aload_n 0, 1) := by decide +kernel
theorem dX6_lays_200 : decode cX6_lays 200 = .ok (.getfield 179, 3) := by decide +kernel
theorem dX6_lays_203 : decode cX6_lays 203 = .ok (.if_icmp .ge 39, 3) := by decide +kernel
theorem dX6_lays_206 : decode cX6_lays 206 = .ok (.iload 4, 2) := by decide +kernel
theorem dX6_lays_208 : decode cX6_lays 208 = .ok (.iconst 0, 1) := by decide +kernel
theorem dX6_lays_209 : decode cX6_lays 209 = .ok (.iconst 1, 1) := by decide +kernel
theorem dX6_lays_210 : decode cX6_lays 210 = .ok (.invokestatic 106, 3) := by decide +kernel
theorem dX6_lays_213 : decode cX6_lays 213 = .ok (.ifCond .eq 29, 3) := by decide +kernel
theorem dX6_lays_216 : decode cX6_lays 216 = .ok (.aload_n 0, 1) := by decide +kernel
theorem dX6_lays_217 : decode cX6_lays 217 = .ok (.getfield 58, 3) := by decide +kernel
theorem dX6_lays_220 : decode cX6_lays 220 = .ok (.iload 7, 2) := by decide +kernel
theorem dX6_lays_222 : decode cX6_lays 222 = .ok (.iaload, 1) := by decide +kernel
theorem dX6_lays_223 : decode cX6_lays 223 = .ok (.bipush 8, 2) := by decide +kernel
theorem dX6_lays_225 : decode cX6_lays 225 = .ok (.if_icmp .ge 17, 3) := by decide +kernel
theorem dX6_lays_228 : decode cX6_lays 228 = .ok (.iload 6, 2) := by decide +kernel
theorem dX6_lays_230 : decode cX6_lays 230 = .ok (.iconst 1, 1) := by decide +kernel
theorem dX6_lays_231 : decode cX6_lays 231 = .ok (.aload_n 0, 1) := by decide +kernel
theorem dX6_lays_232 : decode cX6_lays 232 = .ok (.getfield 58, 3) := by decide +kernel
theorem dX6_lays_235 : decode cX6_lays 235 = .ok (.iload 7, 2) := by decide +kernel
theorem dX6_lays_237 : decode cX6_lays 237 = .ok (.iaload, 1) := by decide +kernel
theorem dX6_lays_238 : decode cX6_lays 238 = .ok (.ishl, 1) := by decide +kernel
theorem dX6_lays_239 : decode cX6_lays 239 = .ok (.ixor, 1) := by decide +kernel
theorem dX6_lays_240 : decode cX6_lays 240 = .ok (.istore 6, 2) := by decide +kernel
theorem dX6_lays_242 : decode cX6_lays 242 = .ok (.iload_n 1, 1) := by decide +kernel
theorem dX6_lays_243 : decode cX6_lays 243 = .ok (.iload 4, 2) := by decide +kernel
theorem dX6_lays_245 : decode cX6_lays 245 = .ok (.ifCond .eq 9, 3) := by decide +kernel
theorem dX6_lays_248 : decode cX6_lays 248 = .ok (.iload 4, 2) := by decide +kernel
theorem dX6_lays_250 : decode cX6_lays 250 = .ok (.iconst 2, 1) := by decide +kernel
theorem dX6_lays_251 : decode cX6_lays 251 = .ok (.if_icmp .ne 8, 3) := by decide +kernel
theorem dX6_lays_254 : decode cX6_lays 254 = .ok (.iload 6, 2) := by decide +kernel
theorem dX6_lays_256 : decode cX6_lays 256 = .ok (.goto 4, 3) := by decide +kernel
theorem dX6_lays_259 : decode cX6_lays 259 = .ok (.iconst 0, 1) := by decide +kernel
theorem dX6_lays_260 : decode cX6_lays 260 = .ok (.ixor, 1) := by decide +kernel
theorem dX6_lays_261 : decode cX6_lays 261 = .ok (.istore_n 1, 1) := by decide +kernel
theorem dX6_lays_262 : decode cX6_lays 262 = .ok (.iload_n 2, 1) := by decide +kernel
theorem dX6_lays_263 : decode cX6_lays 263 = .ok (.iload 4, 2) := by decide +kernel
theorem dX6_lays_265 : decode cX6_lays 265 = .ok (.iconst 1, 1) := by decide +kernel
theorem dX6_lays_266 : decode cX6_lays 266 = .ok (.if_icmp .eq 9, 3) := by decide +kernel
theorem dX6_lays_269 : decode cX6_lays 269 = .ok (.iload 4, 2) := by decide +kernel
theorem dX6_lays_271 : decode cX6_lays 271 = .ok (.iconst 2, 1) := by decide +kernel
theorem dX6_lays_272 : decode cX6_lays 272 = .ok (.if_icmp .ne 8, 3) := by decide +kernel
theorem dX6_lays_275 : decode cX6_lays 275 = .ok (.iload 6, 2) := by decide +kernel
theorem dX6_lays_277 : decode cX6_lays 277 = .ok (.goto 4, 3) := by decide +kernel
theorem dX6_lays_280 : decode cX6_lays 280 = .ok (.iconst 0, 1) := by decide +kernel
theorem dX6_lays_281 : decode cX6_lays 281 = .ok (.ixor, 1) := by decide +kernel
theorem dX6_lays_282 : decode cX6_lays 282 = .ok (.istore_n 2, 1) := by decide +kernel
theorem dX6_lays_283 : decode cX6_lays 283 = .ok (.iinc 3 1, 3) := by decide +kernel
theorem dX6_lays_286 : decode cX6_lays 286 = .ok (.goto (-274), 3) := by decide +kernel
theorem dX6_lays_289 : decode cX6_lays 289 = .ok (.return_, 1) := by decide +kernel
theorem dX6_laysTold_0 : decode cX6_laysTold 0 = .ok (.aload_n 0, 1) := by decide +kernel
theorem dX6_laysTold_1 : decode cX6_laysTold 1 = .ok (.invokevirtual 124, 3) := by decide +kernel
theorem dX6_laysTold_4 : decode cX6_laysTold 4 = .ok (.aload_n 0, 1) := by decide +kernel
theorem dX6_laysTold_5 : decode cX6_laysTold 5 = .ok (.invokevirtual 188, 3) := by decide +kernel
theorem dX6_laysTold_8 : decode cX6_laysTold 8 = .ok (.aload_n 0, 1) := by decide +kernel
theorem dX6_laysTold_9 : decode cX6_laysTold 9 = .ok (.invokevirtual 191, 3) := by decide +kernel
theorem dX6_laysTold_12 : decode cX6_laysTold 12 = .ok (.return_, 1) := by decide +kernel
theorem dX6_allowsOf_0 : decode cX6_allowsOf 0 = .ok (.aload_n 0, 1) := by decide +kernel
theorem dX6_allowsOf_1 : decode cX6_allowsOf 1 = .ok (.invokevirtual 194, 3) := by decide +kernel
theorem dX6_allowsOf_4 : decode cX6_allowsOf 4 = .ok (.aload_n 0, 1) := by decide +kernel
theorem dX6_allowsOf_5 : decode cX6_allowsOf 5 = .ok (.getfield 52, 3) := by decide +kernel
theorem dX6_allowsOf_8 : decode cX6_allowsOf 8 = .ok (.bipush 40, 2) := by decide +kernel
theorem dX6_allowsOf_10 : decode cX6_allowsOf 10 = .ok (.iload_n 2, 1) := by decide +kernel
theorem dX6_allowsOf_11 : decode cX6_allowsOf 11 = .ok (.imul, 1) := by decide +kernel
theorem dX6_allowsOf_12 : decode cX6_allowsOf 12 = .ok (.iload_n 1, 1) := by decide +kernel
theorem dX6_allowsOf_13 : decode cX6_allowsOf 13 = .ok (.iadd, 1) := by decide +kernel
theorem dX6_allowsOf_14 : decode cX6_allowsOf 14 = .ok (.iaload, 1) := by decide +kernel
theorem dX6_allowsOf_15 : decode cX6_allowsOf 15 = .ok (.ireturn, 1) := by decide +kernel
theorem dX6_allows_0 : decode cX6_allows 0 = .ok (.iload_n 1, 1) := by decide +kernel
theorem dX6_allows_1 : decode cX6_allows 1 = .ok (.invokestatic 151, 3) := by decide +kernel
theorem dX6_allows_4 : decode cX6_allows 4 = .ok (.ifCond .eq 19, 3) := by decide +kernel
theorem dX6_allows_7 : decode cX6_allows 7 = .ok (.iload_n 2, 1) := by decide +kernel
theorem dX6_allows_8 : decode cX6_allows 8 = .ok (.invokestatic 145, 3) := by decide +kernel
theorem dX6_allows_11 : decode cX6_allows 11 = .ok (.ifCond .eq 12, 3) := by decide +kernel
theorem dX6_allows_14 : decode cX6_allows 14 = .ok (.aload_n 0, 1) := by decide +kernel
theorem dX6_allows_15 : decode cX6_allows 15 = .ok (.iload_n 1, 1) := by decide +kernel
theorem dX6_allows_16 : decode cX6_allows 16 = .ok (.iload_n 2, 1) := by decide +kernel
theorem dX6_allows_17 : decode cX6_allows 17 = .ok (.invokevirtual 197, 3) := by decide +kernel
theorem dX6_allows_20 : decode cX6_allows 20 = .ok (.goto 5, 3) := by decide +kernel
theorem dX6_allows_23 : decode cX6_allows 23 = .ok (.bipush (-2), 2) := by decide +kernel
theorem dX6_allows_25 : decode cX6_allows 25 = .ok (.ireturn, 1) := by decide +kernel
theorem dX6_allowedOf_0 : decode cX6_allowedOf 0 = .ok (.aload_n 0, 1) := by decide +kernel
theorem dX6_allowedOf_1 : decode cX6_allowedOf 1 = .ok (.invokevirtual 194, 3) := by decide +kernel
theorem dX6_allowedOf_4 : decode cX6_allowedOf 4 = .ok (.aload_n 0, 1) := by decide +kernel
theorem dX6_allowedOf_5 : decode cX6_allowedOf 5 = .ok (.getfield 55, 3) := by decide +kernel
theorem dX6_allowedOf_8 : decode cX6_allowedOf 8 = .ok (.iload_n 1, 1) := by decide +kernel
theorem dX6_allowedOf_9 : decode cX6_allowedOf 9 = .ok (.iaload, 1) := by decide +kernel
theorem dX6_allowedOf_10 : decode cX6_allowedOf 10 = .ok (.ireturn, 1) := by decide +kernel
theorem dX6_allowed_0 : decode cX6_allowed 0 = .ok (.iload_n 1, 1) := by decide +kernel
theorem dX6_allowed_1 : decode cX6_allowed 1 = .ok (.invokestatic 151, 3) := by decide +kernel
theorem dX6_allowed_4 : decode cX6_allowed 4 = .ok (.ifCond .eq 11, 3) := by decide +kernel
theorem dX6_allowed_7 : decode cX6_allowed 7 = .ok (.aload_n 0, 1) := by decide +kernel
theorem dX6_allowed_8 : decode cX6_allowed 8 = .ok (.iload_n 1, 1) := by decide +kernel
theorem dX6_allowed_9 : decode cX6_allowed 9 = .ok (.invokevirtual 200, 3) := by decide +kernel
theorem dX6_allowed_12 : decode cX6_allowed 12 = .ok (.goto 5, 3) := by decide +kernel
theorem dX6_allowed_15 : decode cX6_allowed 15 = .ok (.bipush (-2), 2) := by decide +kernel
theorem dX6_allowed_17 : decode cX6_allowed 17 = .ok (.ireturn, 1) := by decide +kernel
theorem dX6_neverNow_0 : decode cX6_neverNow 0 = .ok (.aload_n 0, 1) := by decide +kernel
theorem dX6_neverNow_1 : decode cX6_neverNow 1 = .ok (.invokevirtual 194, 3) := by decide +kernel
theorem dX6_neverNow_4 : decode cX6_neverNow 4 = .ok (.iconst 0, 1) := by decide +kernel
theorem dX6_neverNow_5 : decode cX6_neverNow 5 = .ok (.istore_n 1, 1) := by decide +kernel
theorem dX6_neverNow_6 : decode cX6_neverNow 6 = .ok (.iconst 0, 1) := by decide +kernel
theorem dX6_neverNow_7 : decode cX6_neverNow 7 = .ok (.istore_n 2, 1) := by decide +kernel
theorem dX6_neverNow_8 : decode cX6_neverNow 8 = .ok (.iload_n 2, 1) := by decide +kernel
theorem dX6_neverNow_9 : decode cX6_neverNow 9 = .ok (.bipush 40, 2) := by decide +kernel
theorem dX6_neverNow_11 : decode cX6_neverNow 11 = .ok (.if_icmp .ge 18, 3) := by decide +kernel
theorem dX6_neverNow_14 : decode cX6_neverNow 14 = .ok (.iload_n 1, 1) := by decide +kernel
theorem dX6_neverNow_15 : decode cX6_neverNow 15 = .ok (.aload_n 0, 1) := by decide +kernel
theorem dX6_neverNow_16 : decode cX6_neverNow 16 = .ok (.getfield 55, 3) := by decide +kernel
theorem dX6_neverNow_19 : decode cX6_neverNow 19 = .ok (.iload_n 2, 1) := by decide +kernel
theorem dX6_neverNow_20 : decode cX6_neverNow 20 = .ok (.iaload, 1) := by decide +kernel
theorem dX6_neverNow_21 : decode cX6_neverNow 21 = .ok (.ior, 1) := by decide +kernel
theorem dX6_neverNow_22 : decode cX6_neverNow 22 = .ok (.istore_n 1, 1) := by decide +kernel
theorem dX6_neverNow_23 : decode cX6_neverNow 23 = .ok (.iinc 2 1, 3) := by decide +kernel
theorem dX6_neverNow_26 : decode cX6_neverNow 26 = .ok (.goto (-18), 3) := by decide +kernel
theorem dX6_neverNow_29 : decode cX6_neverNow 29 = .ok (.aload_n 0, 1) := by decide +kernel
theorem dX6_neverNow_30 : decode cX6_neverNow 30 = .ok (.invokevirtual 182, 3) := by decide +kernel
theorem dX6_neverNow_33 : decode cX6_neverNow 33 = .ok (.iload_n 1, 1) := by decide +kernel
theorem dX6_neverNow_34 : decode cX6_neverNow 34 = .ok (.iconst (-1), 1) := by decide +kernel
theorem dX6_neverNow_35 : decode cX6_neverNow 35 = .ok (.ixor, 1) := by decide +kernel
theorem dX6_neverNow_36 : decode cX6_neverNow 36 = .ok (.iand, 1) := by decide +kernel
theorem dX6_neverNow_37 : decode cX6_neverNow 37 = .ok (.ireturn, 1) := by decide +kernel
theorem dX6_never_0 : decode cX6_never 0 = .ok (.aload_n 0, 1) := by decide +kernel
theorem dX6_never_1 : decode cX6_never 1 = .ok (.invokevirtual 203, 3) := by decide +kernel
theorem dX6_never_4 : decode cX6_never 4 = .ok (.ireturn, 1) := by decide +kernel
theorem dX6_alikeNow_0 : decode cX6_alikeNow 0 = .ok (.aload_n 0, 1) := by decide +kernel
theorem dX6_alikeNow_1 : decode cX6_alikeNow 1 = .ok (.invokevirtual 194, 3) := by decide +kernel
theorem dX6_alikeNow_4 : decode cX6_alikeNow 4 = .ok (.iconst 0, 1) := by decide +kernel
theorem dX6_alikeNow_5 : decode cX6_alikeNow 5 = .ok (.istore_n 1, 1) := by decide +kernel
theorem dX6_alikeNow_6 : decode cX6_alikeNow 6 = .ok (.iload_n 1, 1) := by decide +kernel
theorem dX6_alikeNow_7 : decode cX6_alikeNow 7 = .ok (.bipush 40, 2) := by decide +kernel
theorem dX6_alikeNow_9 : decode cX6_alikeNow 9 = .ok (.if_icmp .ge 27, 3) := by decide +kernel
theorem dX6_alikeNow_12 : decode cX6_alikeNow 12 = .ok (.aload_n 0, 1) := by decide +kernel
theorem dX6_alikeNow_13 : decode cX6_alikeNow 13 = .ok (.getfield 52, 3) := by decide +kernel
theorem dX6_alikeNow_16 : decode cX6_alikeNow 16 = .ok (.iload_n 1, 1) := by decide +kernel
theorem dX6_alikeNow_17 : decode cX6_alikeNow 17 = .ok (.iaload, 1) := by decide +kernel
theorem dX6_alikeNow_18 : decode cX6_alikeNow 18 = .ok (.aload_n 0, 1) := by decide +kernel
theorem dX6_alikeNow_19 : decode cX6_alikeNow 19 = .ok (.getfield 52, 3) := by decide +kernel
theorem dX6_alikeNow_22 : decode cX6_alikeNow 22 = .ok (.bipush 40, 2) := by decide +kernel
theorem dX6_alikeNow_24 : decode cX6_alikeNow 24 = .ok (.iload_n 1, 1) := by decide +kernel
theorem dX6_alikeNow_25 : decode cX6_alikeNow 25 = .ok (.iadd, 1) := by decide +kernel
theorem dX6_alikeNow_26 : decode cX6_alikeNow 26 = .ok (.iaload, 1) := by decide +kernel
theorem dX6_alikeNow_27 : decode cX6_alikeNow 27 = .ok (.if_icmp .eq 9, 3) := by decide +kernel
theorem dX6_alikeNow_30 : decode cX6_alikeNow 30 = .ok (.iinc 1 1, 3) := by decide +kernel
theorem dX6_alikeNow_33 : decode cX6_alikeNow 33 = .ok (.goto (-27), 3) := by decide +kernel
theorem dX6_alikeNow_36 : decode cX6_alikeNow 36 = .ok (.iload_n 1, 1) := by decide +kernel
theorem dX6_alikeNow_37 : decode cX6_alikeNow 37 = .ok (.bipush 40, 2) := by decide +kernel
theorem dX6_alikeNow_39 : decode cX6_alikeNow 39 = .ok (.if_icmp .ge 7, 3) := by decide +kernel
theorem dX6_alikeNow_42 : decode cX6_alikeNow 42 = .ok (.iload_n 1, 1) := by decide +kernel
theorem dX6_alikeNow_43 : decode cX6_alikeNow 43 = .ok (.goto 4, 3) := by decide +kernel
theorem dX6_alikeNow_46 : decode cX6_alikeNow 46 = .ok (.iconst (-1), 1) := by decide +kernel
theorem dX6_alikeNow_47 : decode cX6_alikeNow 47 = .ok (.ireturn, 1) := by decide +kernel
theorem dX6_alike_0 : decode cX6_alike 0 = .ok (.aload_n 0, 1) := by decide +kernel
theorem dX6_alike_1 : decode cX6_alike 1 = .ok (.invokevirtual 206, 3) := by decide +kernel
theorem dX6_alike_4 : decode cX6_alike 4 = .ok (.ireturn, 1) := by decide +kernel
theorem dX6_crossingOf_0 : decode cX6_crossingOf 0 = .ok (.aload_n 0, 1) := by decide +kernel
theorem dX6_crossingOf_1 : decode cX6_crossingOf 1 = .ok (.invokevirtual 194, 3) := by decide +kernel
theorem dX6_crossingOf_4 : decode cX6_crossingOf 4 = .ok (.iconst 0, 1) := by decide +kernel
theorem dX6_crossingOf_5 : decode cX6_crossingOf 5 = .ok (.istore_n 2, 1) := by decide +kernel
theorem dX6_crossingOf_6 : decode cX6_crossingOf 6 = .ok (.iconst 0, 1) := by decide +kernel
theorem dX6_crossingOf_7 : decode cX6_crossingOf 7 = .ok (.istore_n 3, 1) := by decide +kernel
theorem dX6_crossingOf_8 : decode cX6_crossingOf 8 = .ok (.iload_n 3, 1) := by decide +kernel
theorem dX6_crossingOf_9 : decode cX6_crossingOf 9 = .ok (.bipush 32, 2) := by decide +kernel
theorem dX6_crossingOf_11 : decode cX6_crossingOf 11 = .ok (.if_icmp .ge 41, 3) := by decide +kernel
theorem dX6_crossingOf_14 : decode cX6_crossingOf 14 = .ok (.iload_n 2, 1) := by decide +kernel
theorem dX6_crossingOf_15 : decode cX6_crossingOf 15 = .ok (.aload_n 0, 1) := by decide +kernel
theorem dX6_crossingOf_16 : decode cX6_crossingOf 16 = .ok (.getfield 55, 3) := by decide +kernel
theorem dX6_crossingOf_19 : decode cX6_crossingOf 19 = .ok (.iload_n 3, 1) := by decide +kernel
theorem dX6_crossingOf_20 : decode cX6_crossingOf 20 = .ok (.iaload, 1) := by decide +kernel
theorem dX6_crossingOf_21 : decode cX6_crossingOf 21 = .ok (.aload_n 0, 1) := by decide +kernel
theorem dX6_crossingOf_22 : decode cX6_crossingOf 22 = .ok (.getfield 55, 3) := by decide +kernel
theorem dX6_crossingOf_25 : decode cX6_crossingOf 25 = .ok (.iload_n 3, 1) := by decide +kernel
theorem dX6_crossingOf_26 : decode cX6_crossingOf 26 = .ok (.iconst 1, 1) := by decide +kernel
theorem dX6_crossingOf_27 : decode cX6_crossingOf 27 = .ok (.iadd, 1) := by decide +kernel
theorem dX6_crossingOf_28 : decode cX6_crossingOf 28 = .ok (.iaload, 1) := by decide +kernel
theorem dX6_crossingOf_29 : decode cX6_crossingOf 29 = .ok (.iand, 1) := by decide +kernel
theorem dX6_crossingOf_30 : decode cX6_crossingOf 30 = .ok (.iload_n 1, 1) := by decide +kernel
theorem dX6_crossingOf_31 : decode cX6_crossingOf 31 = .ok (.invokestatic 127, 3) := by decide +kernel
theorem dX6_crossingOf_34 : decode cX6_crossingOf 34 = .ok (.ifCond .eq 9, 3) := by decide +kernel
theorem dX6_crossingOf_37 : decode cX6_crossingOf 37 = .ok (.iconst 1, 1) := by decide +kernel
theorem dX6_crossingOf_38 : decode cX6_crossingOf 38 = .ok (.iload_n 3, 1) := by decide +kernel
theorem dX6_crossingOf_39 : decode cX6_crossingOf 39 = .ok (.ishl, 1) := by decide +kernel
theorem dX6_crossingOf_40 : decode cX6_crossingOf 40 = .ok (.goto 4, 3) := by decide +kernel
theorem dX6_crossingOf_43 : decode cX6_crossingOf 43 = .ok (.iconst 0, 1) := by decide +kernel
theorem dX6_crossingOf_44 : decode cX6_crossingOf 44 = .ok (.ior, 1) := by decide +kernel
theorem dX6_crossingOf_45 : decode cX6_crossingOf 45 = .ok (.istore_n 2, 1) := by decide +kernel
theorem dX6_crossingOf_46 : decode cX6_crossingOf 46 = .ok (.iinc 3 1, 3) := by decide +kernel
theorem dX6_crossingOf_49 : decode cX6_crossingOf 49 = .ok (.goto (-41), 3) := by decide +kernel
theorem dX6_crossingOf_52 : decode cX6_crossingOf 52 = .ok (.iload_n 2, 1) := by decide +kernel
theorem dX6_crossingOf_53 : decode cX6_crossingOf 53 = .ok (.ireturn, 1) := by decide +kernel
theorem dX6_crossing_0 : decode cX6_crossing 0 = .ok (.aload_n 0, 1) := by decide +kernel
theorem dX6_crossing_1 : decode cX6_crossing 1 = .ok (.iload_n 1, 1) := by decide +kernel
theorem dX6_crossing_2 : decode cX6_crossing 2 = .ok (.invokevirtual 137, 3) := by decide +kernel
theorem dX6_crossing_5 : decode cX6_crossing 5 = .ok (.ifCond .eq 11, 3) := by decide +kernel
theorem dX6_crossing_8 : decode cX6_crossing 8 = .ok (.aload_n 0, 1) := by decide +kernel
theorem dX6_crossing_9 : decode cX6_crossing 9 = .ok (.iload_n 1, 1) := by decide +kernel
theorem dX6_crossing_10 : decode cX6_crossing 10 = .ok (.invokevirtual 209, 3) := by decide +kernel
theorem dX6_crossing_13 : decode cX6_crossing 13 = .ok (.goto 5, 3) := by decide +kernel
theorem dX6_crossing_16 : decode cX6_crossing 16 = .ok (.bipush (-2), 2) := by decide +kernel
theorem dX6_crossing_18 : decode cX6_crossing 18 = .ok (.ireturn, 1) := by decide +kernel
theorem dX6_finedOn_0 : decode cX6_finedOn 0 = .ok (.aload_n 0, 1) := by decide +kernel
theorem dX6_finedOn_1 : decode cX6_finedOn 1 = .ok (.getfield 37, 3) := by decide +kernel
theorem dX6_finedOn_4 : decode cX6_finedOn 4 = .ok (.iload_n 1, 1) := by decide +kernel
theorem dX6_finedOn_5 : decode cX6_finedOn 5 = .ok (.iaload, 1) := by decide +kernel
theorem dX6_finedOn_6 : decode cX6_finedOn 6 = .ok (.istore_n 3, 1) := by decide +kernel
theorem dX6_finedOn_7 : decode cX6_finedOn 7 = .ok (.aload_n 0, 1) := by decide +kernel
theorem dX6_finedOn_8 : decode cX6_finedOn 8 = .ok (.getfield 34, 3) := by decide +kernel
theorem dX6_finedOn_11 : decode cX6_finedOn 11 = .ok (.iload_n 1, 1) := by decide +kernel
theorem dX6_finedOn_12 : decode cX6_finedOn 12 = .ok (.iaload, 1) := by decide +kernel
theorem dX6_finedOn_13 : decode cX6_finedOn 13 = .ok (.aload_n 0, 1) := by decide +kernel
theorem dX6_finedOn_14 : decode cX6_finedOn 14 = .ok (.getfield 40, 3) := by decide +kernel
theorem dX6_finedOn_17 : decode cX6_finedOn 17 = .ok (.iload_n 1, 1) := by decide +kernel
theorem dX6_finedOn_18 : decode cX6_finedOn 18 = .ok (.iaload, 1) := by decide +kernel
theorem dX6_finedOn_19 : decode cX6_finedOn 19 = .ok (.iadd, 1) := by decide +kernel
theorem dX6_finedOn_20 : decode cX6_finedOn 20 = .ok (.iconst 1, 1) := by decide +kernel
theorem dX6_finedOn_21 : decode cX6_finedOn 21 = .ok (.isub, 1) := by decide +kernel
theorem dX6_finedOn_22 : decode cX6_finedOn 22 = .ok (.istore 4, 2) := by decide +kernel
theorem dX6_finedOn_24 : decode cX6_finedOn 24 = .ok (.aload_n 0, 1) := by decide +kernel
theorem dX6_finedOn_25 : decode cX6_finedOn 25 = .ok (.getfield 148, 3) := by decide +kernel
theorem dX6_finedOn_28 : decode cX6_finedOn 28 = .ok (.ifCond .ne 21, 3) := by decide +kernel
theorem dX6_finedOn_31 : decode cX6_finedOn 31 = .ok (.iload_n 2, 1) := by decide +kernel
theorem dX6_finedOn_32 : decode cX6_finedOn 32 = .ok (.aload_n 0, 1) := by decide +kernel
theorem dX6_finedOn_33 : decode cX6_finedOn 33 = .ok (.getfield 34, 3) := by decide +kernel
theorem dX6_finedOn_36 : decode cX6_finedOn 36 = .ok (.iload_n 1, 1) := by decide +kernel
theorem dX6_finedOn_37 : decode cX6_finedOn 37 = .ok (.iaload, 1) := by decide +kernel
theorem dX6_finedOn_38 : decode cX6_finedOn 38 = .ok (.if_icmp .ne 7, 3) := by decide +kernel
theorem dX6_finedOn_41 : decode cX6_finedOn 41 = .ok (.iconst 1, 1) := by decide +kernel
theorem dX6_finedOn_42 : decode cX6_finedOn 42 = .ok (.goto 50, 3) := by decide +kernel
theorem dX6_finedOn_45 : decode cX6_finedOn 45 = .ok (.iconst 0, 1) := by decide +kernel
theorem dX6_finedOn_46 : decode cX6_finedOn 46 = .ok (.goto 46, 3) := by decide +kernel
theorem dX6_finedOn_49 : decode cX6_finedOn 49 = .ok (.aload_n 0, 1) := by decide +kernel
theorem dX6_finedOn_50 : decode cX6_finedOn 50 = .ok (.getfield 148, 3) := by decide +kernel
theorem dX6_finedOn_53 : decode cX6_finedOn 53 = .ok (.iconst 2, 1) := by decide +kernel
theorem dX6_finedOn_54 : decode cX6_finedOn 54 = .ok (.if_icmp .ne 17, 3) := by decide +kernel
theorem dX6_finedOn_57 : decode cX6_finedOn 57 = .ok (.iload_n 2, 1) := by decide +kernel
theorem dX6_finedOn_58 : decode cX6_finedOn 58 = .ok (.iload 4, 2) := by decide +kernel
theorem dX6_finedOn_60 : decode cX6_finedOn 60 = .ok (.if_icmp .ne 7, 3) := by decide +kernel
theorem dX6_finedOn_63 : decode cX6_finedOn 63 = .ok (.iconst 1, 1) := by decide +kernel
theorem dX6_finedOn_64 : decode cX6_finedOn 64 = .ok (.goto 28, 3) := by decide +kernel
theorem dX6_finedOn_67 : decode cX6_finedOn 67 = .ok (.iconst 0, 1) := by decide +kernel
theorem dX6_finedOn_68 : decode cX6_finedOn 68 = .ok (.goto 24, 3) := by decide +kernel
theorem dX6_finedOn_71 : decode cX6_finedOn 71 = .ok (.iload_n 2, 1) := by decide +kernel
theorem dX6_finedOn_72 : decode cX6_finedOn 72 = .ok (.aload_n 0, 1) := by decide +kernel
theorem dX6_finedOn_73 : decode cX6_finedOn 73 = .ok (.getfield 34, 3) := by decide +kernel
theorem dX6_finedOn_76 : decode cX6_finedOn 76 = .ok (.iload_n 1, 1) := by decide +kernel
theorem dX6_finedOn_77 : decode cX6_finedOn 77 = .ok (.iaload, 1) := by decide +kernel
theorem dX6_finedOn_78 : decode cX6_finedOn 78 = .ok (.if_icmp .lt 13, 3) := by decide +kernel
theorem dX6_finedOn_81 : decode cX6_finedOn 81 = .ok (.iload_n 2, 1) := by decide +kernel
theorem dX6_finedOn_82 : decode cX6_finedOn 82 = .ok (.iload 4, 2) := by decide +kernel
theorem dX6_finedOn_84 : decode cX6_finedOn 84 = .ok (.if_icmp .gt 7, 3) := by decide +kernel
theorem dX6_finedOn_87 : decode cX6_finedOn 87 = .ok (.iconst 1, 1) := by decide +kernel
theorem dX6_finedOn_88 : decode cX6_finedOn 88 = .ok (.goto 4, 3) := by decide +kernel
theorem dX6_finedOn_91 : decode cX6_finedOn 91 = .ok (.iconst 0, 1) := by decide +kernel
theorem dX6_finedOn_92 : decode cX6_finedOn 92 = .ok (.istore 5, 2) := by decide +kernel
theorem dX6_finedOn_94 : decode cX6_finedOn 94 = .ok (.iload_n 3, 1) := by decide +kernel
theorem dX6_finedOn_95 : decode cX6_finedOn 95 = .ok (.aload_n 0, 1) := by decide +kernel
theorem dX6_finedOn_96 : decode cX6_finedOn 96 = .ok (.getfield 114, 3) := by decide +kernel
theorem dX6_finedOn_99 : decode cX6_finedOn 99 = .ok (.if_icmp .ge 30, 3) := by decide +kernel
theorem dX6_finedOn_102 : decode cX6_finedOn 102 = .ok (.iload 5, 2) := by decide +kernel
theorem dX6_finedOn_104 : decode cX6_finedOn 104 = .ok (.ifCond .eq 25, 3) := by decide +kernel
theorem dX6_finedOn_107 : decode cX6_finedOn 107 = .ok (.aload_n 0, 1) := by decide +kernel
theorem dX6_finedOn_108 : decode cX6_finedOn 108 = .ok (.getfield 55, 3) := by decide +kernel
theorem dX6_finedOn_111 : decode cX6_finedOn 111 = .ok (.iload_n 2, 1) := by decide +kernel
theorem dX6_finedOn_112 : decode cX6_finedOn 112 = .ok (.iaload, 1) := by decide +kernel
theorem dX6_finedOn_113 : decode cX6_finedOn 113 = .ok (.iload_n 3, 1) := by decide +kernel
theorem dX6_finedOn_114 : decode cX6_finedOn 114 = .ok (.invokestatic 127, 3) := by decide +kernel
theorem dX6_finedOn_117 : decode cX6_finedOn 117 = .ok (.ifCond .ne 12, 3) := by decide +kernel
theorem dX6_finedOn_120 : decode cX6_finedOn 120 = .ok (.aload_n 0, 1) := by decide +kernel
theorem dX6_finedOn_121 : decode cX6_finedOn 121 = .ok (.getfield 13, 3) := by decide +kernel
theorem dX6_finedOn_124 : decode cX6_finedOn 124 = .ok (.iload_n 3, 1) := by decide +kernel
theorem dX6_finedOn_125 : decode cX6_finedOn 125 = .ok (.iaload, 1) := by decide +kernel
theorem dX6_finedOn_126 : decode cX6_finedOn 126 = .ok (.goto 4, 3) := by decide +kernel
theorem dX6_finedOn_129 : decode cX6_finedOn 129 = .ok (.iconst 0, 1) := by decide +kernel
theorem dX6_finedOn_130 : decode cX6_finedOn 130 = .ok (.ireturn, 1) := by decide +kernel
theorem dX6_finedOf_0 : decode cX6_finedOf 0 = .ok (.aload_n 0, 1) := by decide +kernel
theorem dX6_finedOf_1 : decode cX6_finedOf 1 = .ok (.invokevirtual 194, 3) := by decide +kernel
theorem dX6_finedOf_4 : decode cX6_finedOf 4 = .ok (.iconst 0, 1) := by decide +kernel
theorem dX6_finedOf_5 : decode cX6_finedOf 5 = .ok (.istore_n 2, 1) := by decide +kernel
theorem dX6_finedOf_6 : decode cX6_finedOf 6 = .ok (.iconst 0, 1) := by decide +kernel
theorem dX6_finedOf_7 : decode cX6_finedOf 7 = .ok (.istore_n 3, 1) := by decide +kernel
theorem dX6_finedOf_8 : decode cX6_finedOf 8 = .ok (.iload_n 3, 1) := by decide +kernel
theorem dX6_finedOf_9 : decode cX6_finedOf 9 = .ok (.bipush 40, 2) := by decide +kernel
theorem dX6_finedOf_11 : decode cX6_finedOf 11 = .ok (.if_icmp .ge 18, 3) := by decide +kernel
theorem dX6_finedOf_14 : decode cX6_finedOf 14 = .ok (.iload_n 2, 1) := by decide +kernel
theorem dX6_finedOf_15 : decode cX6_finedOf 15 = .ok (.aload_n 0, 1) := by decide +kernel
theorem dX6_finedOf_16 : decode cX6_finedOf 16 = .ok (.iload_n 1, 1) := by decide +kernel
theorem dX6_finedOf_17 : decode cX6_finedOf 17 = .ok (.iload_n 3, 1) := by decide +kernel
theorem dX6_finedOf_18 : decode cX6_finedOf 18 = .ok (.invokevirtual 212, 3) := by decide +kernel
theorem dX6_finedOf_21 : decode cX6_finedOf 21 = .ok (.iadd, 1) := by decide +kernel
theorem dX6_finedOf_22 : decode cX6_finedOf 22 = .ok (.istore_n 2, 1) := by decide +kernel
theorem dX6_finedOf_23 : decode cX6_finedOf 23 = .ok (.iinc 3 1, 3) := by decide +kernel
theorem dX6_finedOf_26 : decode cX6_finedOf 26 = .ok (.goto (-18), 3) := by decide +kernel
theorem dX6_finedOf_29 : decode cX6_finedOf 29 = .ok (.iload_n 2, 1) := by decide +kernel
theorem dX6_finedOf_30 : decode cX6_finedOf 30 = .ok (.ireturn, 1) := by decide +kernel
theorem dX6_fined_0 : decode cX6_fined 0 = .ok (.iload_n 1, 1) := by decide +kernel
theorem dX6_fined_1 : decode cX6_fined 1 = .ok (.iconst 0, 1) := by decide +kernel
theorem dX6_fined_2 : decode cX6_fined 2 = .ok (.aload_n 0, 1) := by decide +kernel
theorem dX6_fined_3 : decode cX6_fined 3 = .ok (.getfield 16, 3) := by decide +kernel
theorem dX6_fined_6 : decode cX6_fined 6 = .ok (.iconst 3, 1) := by decide +kernel
theorem dX6_fined_7 : decode cX6_fined 7 = .ok (.iaload, 1) := by decide +kernel
theorem dX6_fined_8 : decode cX6_fined 8 = .ok (.iconst 1, 1) := by decide +kernel
theorem dX6_fined_9 : decode cX6_fined 9 = .ok (.isub, 1) := by decide +kernel
theorem dX6_fined_10 : decode cX6_fined 10 = .ok (.invokestatic 106, 3) := by decide +kernel
theorem dX6_fined_13 : decode cX6_fined 13 = .ok (.ifCond .eq 11, 3) := by decide +kernel
theorem dX6_fined_16 : decode cX6_fined 16 = .ok (.aload_n 0, 1) := by decide +kernel
theorem dX6_fined_17 : decode cX6_fined 17 = .ok (.iload_n 1, 1) := by decide +kernel
theorem dX6_fined_18 : decode cX6_fined 18 = .ok (.invokevirtual 215, 3) := by decide +kernel
theorem dX6_fined_21 : decode cX6_fined 21 = .ok (.goto 5, 3) := by decide +kernel
theorem dX6_fined_24 : decode cX6_fined 24 = .ok (.bipush (-2), 2) := by decide +kernel
theorem dX6_fined_26 : decode cX6_fined 26 = .ok (.ireturn, 1) := by decide +kernel
theorem dX6_coinsOf_0 : decode cX6_coinsOf 0 = .ok (.aload_n 0, 1) := by decide +kernel
theorem dX6_coinsOf_1 : decode cX6_coinsOf 1 = .ok (.invokevirtual 194, 3) := by decide +kernel
theorem dX6_coinsOf_4 : decode cX6_coinsOf 4 = .ok (.iconst 0, 1) := by decide +kernel
theorem dX6_coinsOf_5 : decode cX6_coinsOf 5 = .ok (.istore_n 2, 1) := by decide +kernel
theorem dX6_coinsOf_6 : decode cX6_coinsOf 6 = .ok (.iconst 0, 1) := by decide +kernel
theorem dX6_coinsOf_7 : decode cX6_coinsOf 7 = .ok (.istore_n 3, 1) := by decide +kernel
theorem dX6_coinsOf_8 : decode cX6_coinsOf 8 = .ok (.iload_n 3, 1) := by decide +kernel
theorem dX6_coinsOf_9 : decode cX6_coinsOf 9 = .ok (.bipush 40, 2) := by decide +kernel
theorem dX6_coinsOf_11 : decode cX6_coinsOf 11 = .ok (.if_icmp .ge 75, 3) := by decide +kernel
theorem dX6_coinsOf_14 : decode cX6_coinsOf 14 = .ok (.aload_n 0, 1) := by decide +kernel
theorem dX6_coinsOf_15 : decode cX6_coinsOf 15 = .ok (.getfield 49, 3) := by decide +kernel
theorem dX6_coinsOf_18 : decode cX6_coinsOf 18 = .ok (.iload_n 3, 1) := by decide +kernel
theorem dX6_coinsOf_19 : decode cX6_coinsOf 19 = .ok (.iaload, 1) := by decide +kernel
theorem dX6_coinsOf_20 : decode cX6_coinsOf 20 = .ok (.iload_n 1, 1) := by decide +kernel
theorem dX6_coinsOf_21 : decode cX6_coinsOf 21 = .ok (.if_icmp .eq 17, 3) := by decide +kernel
theorem dX6_coinsOf_24 : decode cX6_coinsOf 24 = .ok (.iload_n 1, 1) := by decide +kernel
theorem dX6_coinsOf_25 : decode cX6_coinsOf 25 = .ok (.ifCond .ne 17, 3) := by decide +kernel
theorem dX6_coinsOf_28 : decode cX6_coinsOf 28 = .ok (.aload_n 0, 1) := by decide +kernel
theorem dX6_coinsOf_29 : decode cX6_coinsOf 29 = .ok (.getfield 49, 3) := by decide +kernel
theorem dX6_coinsOf_32 : decode cX6_coinsOf 32 = .ok (.iload_n 3, 1) := by decide +kernel
theorem dX6_coinsOf_33 : decode cX6_coinsOf 33 = .ok (.iaload, 1) := by decide +kernel
theorem dX6_coinsOf_34 : decode cX6_coinsOf 34 = .ok (.iconst 2, 1) := by decide +kernel
theorem dX6_coinsOf_35 : decode cX6_coinsOf 35 = .ok (.if_icmp .ne 7, 3) := by decide +kernel
theorem dX6_coinsOf_38 : decode cX6_coinsOf 38 = .ok (.iconst 1, 1) := by decide +kernel
theorem dX6_coinsOf_39 : decode cX6_coinsOf 39 = .ok (.goto 4, 3) := by decide +kernel
theorem dX6_coinsOf_42 : decode cX6_coinsOf 42 = .ok (.iconst 0, 1) := by decide +kernel
theorem dX6_coinsOf_43 : decode cX6_coinsOf 43 = .ok (.istore 4, 2) := by decide +kernel
theorem dX6_coinsOf_45 : decode cX6_coinsOf 45 = .ok (.iconst 0, 1) := by decide +kernel
theorem dX6_coinsOf_46 : decode cX6_coinsOf 46 = .ok (.istore 5, 2) := by decide +kernel
theorem dX6_coinsOf_48 : decode cX6_coinsOf 48 = .ok (.iload 5, 2) := by decide +kernel
theorem dX6_coinsOf_50 : decode cX6_coinsOf 50 = .ok (.aload_n 0, 1) := by decide +kernel
theorem dX6_coinsOf_51 : decode cX6_coinsOf 51 = .ok (.getfield 16, 3) := by decide +kernel
theorem dX6_coinsOf_54 : decode cX6_coinsOf 54 = .ok (.iconst 3, 1) := by decide +kernel
theorem dX6_coinsOf_55 : decode cX6_coinsOf 55 = .ok (.iaload, 1) := by decide +kernel
theorem dX6_coinsOf_56 : decode cX6_coinsOf 56 = .ok (.if_icmp .ge 24, 3) := by decide +kernel
theorem dX6_coinsOf_59 : decode cX6_coinsOf 59 = .ok (.iload 4, 2) := by decide +kernel
theorem dX6_coinsOf_61 : decode cX6_coinsOf 61 = .ok (.ifCond .eq 19, 3) := by decide +kernel
theorem dX6_coinsOf_64 : decode cX6_coinsOf 64 = .ok (.iload_n 2, 1) := by decide +kernel
theorem dX6_coinsOf_65 : decode cX6_coinsOf 65 = .ok (.aload_n 0, 1) := by decide +kernel
theorem dX6_coinsOf_66 : decode cX6_coinsOf 66 = .ok (.iload 5, 2) := by decide +kernel
theorem dX6_coinsOf_68 : decode cX6_coinsOf 68 = .ok (.iload_n 3, 1) := by decide +kernel
theorem dX6_coinsOf_69 : decode cX6_coinsOf 69 = .ok (.invokevirtual 212, 3) := by decide +kernel
theorem dX6_coinsOf_72 : decode cX6_coinsOf 72 = .ok (.iadd, 1) := by decide +kernel
theorem dX6_coinsOf_73 : decode cX6_coinsOf 73 = .ok (.istore_n 2, 1) := by decide +kernel
theorem dX6_coinsOf_74 : decode cX6_coinsOf 74 = .ok (.iinc 5 1, 3) := by decide +kernel
theorem dX6_coinsOf_77 : decode cX6_coinsOf 77 = .ok (.goto (-29), 3) := by decide +kernel
theorem dX6_coinsOf_80 : decode cX6_coinsOf 80 = .ok (.iinc 3 1, 3) := by decide +kernel
theorem dX6_coinsOf_83 : decode cX6_coinsOf 83 = .ok (.goto (-75), 3) := by decide +kernel
theorem dX6_coinsOf_86 : decode cX6_coinsOf 86 = .ok (.iload_n 2, 1) := by decide +kernel
theorem dX6_coinsOf_87 : decode cX6_coinsOf 87 = .ok (.ireturn, 1) := by decide +kernel
theorem dX6_coins_0 : decode cX6_coins 0 = .ok (.iload_n 1, 1) := by decide +kernel
theorem dX6_coins_1 : decode cX6_coins 1 = .ok (.invokestatic 145, 3) := by decide +kernel
theorem dX6_coins_4 : decode cX6_coins 4 = .ok (.ifCond .eq 11, 3) := by decide +kernel
theorem dX6_coins_7 : decode cX6_coins 7 = .ok (.aload_n 0, 1) := by decide +kernel
theorem dX6_coins_8 : decode cX6_coins 8 = .ok (.iload_n 1, 1) := by decide +kernel
theorem dX6_coins_9 : decode cX6_coins 9 = .ok (.invokevirtual 218, 3) := by decide +kernel
theorem dX6_coins_12 : decode cX6_coins 12 = .ok (.goto 5, 3) := by decide +kernel
theorem dX6_coins_15 : decode cX6_coins 15 = .ok (.bipush (-2), 2) := by decide +kernel
theorem dX6_coins_17 : decode cX6_coins 17 = .ok (.ireturn, 1) := by decide +kernel
theorem dX6_firstFor_0 : decode cX6_firstFor 0 = .ok (.iload_n 3, 1) := by decide +kernel
theorem dX6_firstFor_1 : decode cX6_firstFor 1 = .ok (.istore 4, 2) := by decide +kernel
theorem dX6_firstFor_3 : decode cX6_firstFor 3 = .ok (.iload 4, 2) := by decide +kernel
theorem dX6_firstFor_5 : decode cX6_firstFor 5 = .ok (.iload_n 2, 1) := by decide +kernel
theorem dX6_firstFor_6 : decode cX6_firstFor 6 = .ok (.iadd, 1) := by decide +kernel
theorem dX6_firstFor_7 : decode cX6_firstFor 7 = .ok (.bipush 40, 2) := by decide +kernel
theorem dX6_firstFor_9 : decode cX6_firstFor 9 = .ok (.if_icmp .gt 72, 3) := by decide +kernel
theorem dX6_firstFor_12 : decode cX6_firstFor 12 = .ok (.iload_n 1, 1) := by decide +kernel
theorem dX6_firstFor_13 : decode cX6_firstFor 13 = .ok (.aload_n 0, 1) := by decide +kernel
theorem dX6_firstFor_14 : decode cX6_firstFor 14 = .ok (.getfield 114, 3) := by decide +kernel
theorem dX6_firstFor_17 : decode cX6_firstFor 17 = .ok (.if_icmp .ge 64, 3) := by decide +kernel
theorem dX6_firstFor_20 : decode cX6_firstFor 20 = .ok (.iconst 1, 1) := by decide +kernel
theorem dX6_firstFor_21 : decode cX6_firstFor 21 = .ok (.istore 5, 2) := by decide +kernel
theorem dX6_firstFor_23 : decode cX6_firstFor 23 = .ok (.iconst 0, 1) := by decide +kernel
theorem dX6_firstFor_24 : decode cX6_firstFor 24 = .ok (.istore 6, 2) := by decide +kernel
theorem dX6_firstFor_26 : decode cX6_firstFor 26 = .ok (.iload 6, 2) := by decide +kernel
theorem dX6_firstFor_28 : decode cX6_firstFor 28 = .ok (.iload_n 2, 1) := by decide +kernel
theorem dX6_firstFor_29 : decode cX6_firstFor 29 = .ok (.if_icmp .ge 38, 3) := by decide +kernel
theorem dX6_firstFor_32 : decode cX6_firstFor 32 = .ok (.iload 5, 2) := by decide +kernel
theorem dX6_firstFor_34 : decode cX6_firstFor 34 = .ok (.ifCond .eq 24, 3) := by decide +kernel
theorem dX6_firstFor_37 : decode cX6_firstFor 37 = .ok (.aload_n 0, 1) := by decide +kernel
theorem dX6_firstFor_38 : decode cX6_firstFor 38 = .ok (.getfield 55, 3) := by decide +kernel
theorem dX6_firstFor_41 : decode cX6_firstFor 41 = .ok (.iload 4, 2) := by decide +kernel
theorem dX6_firstFor_43 : decode cX6_firstFor 43 = .ok (.iload 6, 2) := by decide +kernel
theorem dX6_firstFor_45 : decode cX6_firstFor 45 = .ok (.iadd, 1) := by decide +kernel
theorem dX6_firstFor_46 : decode cX6_firstFor 46 = .ok (.iaload, 1) := by decide +kernel
theorem dX6_firstFor_47 : decode cX6_firstFor 47 = .ok (.iload_n 1, 1) := by decide +kernel
theorem dX6_firstFor_48 : decode cX6_firstFor 48 = .ok (.invokestatic 127, 3) := by decide +kernel
theorem dX6_firstFor_51 : decode cX6_firstFor 51 = .ok (.ifCond .eq 7, 3) := by decide +kernel
theorem dX6_firstFor_54 : decode cX6_firstFor 54 = .ok (.iconst 1, 1) := by decide +kernel
theorem dX6_firstFor_55 : decode cX6_firstFor 55 = .ok (.goto 4, 3) := by decide +kernel
theorem dX6_firstFor_58 : decode cX6_firstFor 58 = .ok (.iconst 0, 1) := by decide +kernel
theorem dX6_firstFor_59 : decode cX6_firstFor 59 = .ok (.istore 5, 2) := by decide +kernel
theorem dX6_firstFor_61 : decode cX6_firstFor 61 = .ok (.iinc 6 1, 3) := by decide +kernel
theorem dX6_firstFor_64 : decode cX6_firstFor 64 = .ok (.goto (-38), 3) := by decide +kernel
theorem dX6_firstFor_67 : decode cX6_firstFor 67 = .ok (.iload 5, 2) := by decide +kernel
theorem dX6_firstFor_69 : decode cX6_firstFor 69 = .ok (.ifCond .eq 6, 3) := by decide +kernel
theorem dX6_firstFor_72 : decode cX6_firstFor 72 = .ok (.iload 4, 2) := by decide +kernel
theorem dX6_firstFor_74 : decode cX6_firstFor 74 = .ok (.ireturn, 1) := by decide +kernel
theorem dX6_firstFor_75 : decode cX6_firstFor 75 = .ok (.iinc 4 1, 3) := by decide +kernel
theorem dX6_firstFor_78 : decode cX6_firstFor 78 = .ok (.goto (-75), 3) := by decide +kernel
theorem dX6_firstFor_81 : decode cX6_firstFor 81 = .ok (.iconst (-1), 1) := by decide +kernel
theorem dX6_firstFor_82 : decode cX6_firstFor 82 = .ok (.ireturn, 1) := by decide +kernel
theorem dX6_soonestOf_0 : decode cX6_soonestOf 0 = .ok (.aload_n 0, 1) := by decide +kernel
theorem dX6_soonestOf_1 : decode cX6_soonestOf 1 = .ok (.invokevirtual 194, 3) := by decide +kernel
theorem dX6_soonestOf_4 : decode cX6_soonestOf 4 = .ok (.aload_n 0, 1) := by decide +kernel
theorem dX6_soonestOf_5 : decode cX6_soonestOf 5 = .ok (.iload_n 1, 1) := by decide +kernel
theorem dX6_soonestOf_6 : decode cX6_soonestOf 6 = .ok (.iload_n 2, 1) := by decide +kernel
theorem dX6_soonestOf_7 : decode cX6_soonestOf 7 = .ok (.iload_n 3, 1) := by decide +kernel
theorem dX6_soonestOf_8 : decode cX6_soonestOf 8 = .ok (.invokevirtual 221, 3) := by decide +kernel
theorem dX6_soonestOf_11 : decode cX6_soonestOf 11 = .ok (.ireturn, 1) := by decide +kernel
theorem dX6_soonest_0 : decode cX6_soonest 0 = .ok (.aload_n 0, 1) := by decide +kernel
theorem dX6_soonest_1 : decode cX6_soonest 1 = .ok (.iload_n 1, 1) := by decide +kernel
theorem dX6_soonest_2 : decode cX6_soonest 2 = .ok (.invokevirtual 137, 3) := by decide +kernel
theorem dX6_soonest_5 : decode cX6_soonest 5 = .ok (.ifCond .eq 30, 3) := by decide +kernel
theorem dX6_soonest_8 : decode cX6_soonest 8 = .ok (.iload_n 2, 1) := by decide +kernel
theorem dX6_soonest_9 : decode cX6_soonest 9 = .ok (.iconst 1, 1) := by decide +kernel
theorem dX6_soonest_10 : decode cX6_soonest 10 = .ok (.bipush 9, 2) := by decide +kernel
theorem dX6_soonest_12 : decode cX6_soonest 12 = .ok (.invokestatic 106, 3) := by decide +kernel
theorem dX6_soonest_15 : decode cX6_soonest 15 = .ok (.ifCond .eq 20, 3) := by decide +kernel
theorem dX6_soonest_18 : decode cX6_soonest 18 = .ok (.iload_n 3, 1) := by decide +kernel
theorem dX6_soonest_19 : decode cX6_soonest 19 = .ok (.invokestatic 151, 3) := by decide +kernel
theorem dX6_soonest_22 : decode cX6_soonest 22 = .ok (.ifCond .eq 13, 3) := by decide +kernel
theorem dX6_soonest_25 : decode cX6_soonest 25 = .ok (.aload_n 0, 1) := by decide +kernel
theorem dX6_soonest_26 : decode cX6_soonest 26 = .ok (.iload_n 1, 1) := by decide +kernel
theorem dX6_soonest_27 : decode cX6_soonest 27 = .ok (.iload_n 2, 1) := by decide +kernel
theorem dX6_soonest_28 : decode cX6_soonest 28 = .ok (.iload_n 3, 1) := by decide +kernel
theorem dX6_soonest_29 : decode cX6_soonest 29 = .ok (.invokevirtual 225, 3) := by decide +kernel
theorem dX6_soonest_32 : decode cX6_soonest 32 = .ok (.goto 5, 3) := by decide +kernel
theorem dX6_soonest_35 : decode cX6_soonest 35 = .ok (.bipush (-2), 2) := by decide +kernel
theorem dX6_soonest_37 : decode cX6_soonest 37 = .ok (.ireturn, 1) := by decide +kernel
theorem dX6_cheapestOf_0 : decode cX6_cheapestOf 0 = .ok (.aload_n 0, 1) := by decide +kernel
theorem dX6_cheapestOf_1 : decode cX6_cheapestOf 1 = .ok (.invokevirtual 194, 3) := by decide +kernel
theorem dX6_cheapestOf_4 : decode cX6_cheapestOf 4 = .ok (.iconst (-1), 1) := by decide +kernel
theorem dX6_cheapestOf_5 : decode cX6_cheapestOf 5 = .ok (.istore 5, 2) := by decide +kernel
theorem dX6_cheapestOf_7 : decode cX6_cheapestOf 7 = .ok (.iconst (-1), 1) := by decide +kernel
theorem dX6_cheapestOf_8 : decode cX6_cheapestOf 8 = .ok (.istore 6, 2) := by decide +kernel
theorem dX6_cheapestOf_10 : decode cX6_cheapestOf 10 = .ok (.iload_n 3, 1) := by decide +kernel
theorem dX6_cheapestOf_11 : decode cX6_cheapestOf 11 = .ok (.istore 7, 2) := by decide +kernel
theorem dX6_cheapestOf_13 : decode cX6_cheapestOf 13 = .ok (.iload 7, 2) := by decide +kernel
theorem dX6_cheapestOf_15 : decode cX6_cheapestOf 15 = .ok (.iload_n 2, 1) := by decide +kernel
theorem dX6_cheapestOf_16 : decode cX6_cheapestOf 16 = .ok (.iadd, 1) := by decide +kernel
theorem dX6_cheapestOf_17 : decode cX6_cheapestOf 17 = .ok (.bipush 40, 2) := by decide +kernel
theorem dX6_cheapestOf_19 : decode cX6_cheapestOf 19 = .ok (.if_icmp .gt 107, 3) := by decide +kernel
theorem dX6_cheapestOf_22 : decode cX6_cheapestOf 22 = .ok (.iconst 0, 1) := by decide +kernel
theorem dX6_cheapestOf_23 : decode cX6_cheapestOf 23 = .ok (.istore 8, 2) := by decide +kernel
theorem dX6_cheapestOf_25 : decode cX6_cheapestOf 25 = .ok (.iconst 0, 1) := by decide +kernel
theorem dX6_cheapestOf_26 : decode cX6_cheapestOf 26 = .ok (.istore 9, 2) := by decide +kernel
theorem dX6_cheapestOf_28 : decode cX6_cheapestOf 28 = .ok (.iload 9, 2) := by decide +kernel
theorem dX6_cheapestOf_30 : decode cX6_cheapestOf 30 = .ok (.iload_n 2, 1) := by decide +kernel
theorem dX6_cheapestOf_31 : decode cX6_cheapestOf 31 = .ok (.if_icmp .ge 41, 3) := by decide +kernel
theorem dX6_cheapestOf_34 : decode cX6_cheapestOf 34 = .ok (.iload 8, 2) := by decide +kernel
theorem dX6_cheapestOf_36 : decode cX6_cheapestOf 36 = .ok (.aload_n 0, 1) := by decide +kernel
theorem dX6_cheapestOf_37 : decode cX6_cheapestOf 37 = .ok (.getfield 55, 3) := by decide +kernel
theorem dX6_cheapestOf_40 : decode cX6_cheapestOf 40 = .ok (.iload 7, 2) := by decide +kernel
theorem dX6_cheapestOf_42 : decode cX6_cheapestOf 42 = .ok (.iload 9, 2) := by decide +kernel
theorem dX6_cheapestOf_44 : decode cX6_cheapestOf 44 = .ok (.iadd, 1) := by decide +kernel
theorem dX6_cheapestOf_45 : decode cX6_cheapestOf 45 = .ok (.iaload, 1) := by decide +kernel
theorem dX6_cheapestOf_46 : decode cX6_cheapestOf 46 = .ok (.iload_n 1, 1) := by decide +kernel
theorem dX6_cheapestOf_47 : decode cX6_cheapestOf 47 = .ok (.invokestatic 127, 3) := by decide +kernel
theorem dX6_cheapestOf_50 : decode cX6_cheapestOf 50 = .ok (.ifCond .eq 7, 3) := by decide +kernel
theorem dX6_cheapestOf_53 : decode cX6_cheapestOf 53 = .ok (.iconst 0, 1) := by decide +kernel
theorem dX6_cheapestOf_54 : decode cX6_cheapestOf 54 = .ok (.goto 9, 3) := by decide +kernel
theorem dX6_cheapestOf_57 : decode cX6_cheapestOf 57 = .ok (.aload_n 0, 1) := by decide +kernel
theorem dX6_cheapestOf_58 : decode cX6_cheapestOf 58 = .ok (.getfield 13, 3) := by decide +kernel
theorem dX6_cheapestOf_61 : decode cX6_cheapestOf 61 = .ok (.iload_n 1, 1) := by decide +kernel
theorem dX6_cheapestOf_62 : decode cX6_cheapestOf 62 = .ok (.iaload, 1) := by decide +kernel
theorem dX6_cheapestOf_63 : decode cX6_cheapestOf 63 = .ok (.iadd, 1) := by decide +kernel
theorem dX6_cheapestOf_64 : decode cX6_cheapestOf 64 = .ok (.istore 8, 2) := by decide +kernel
theorem dX6_cheapestOf_66 : decode cX6_cheapestOf 66 = .ok (.iinc 9 1, 3) := by decide +kernel
theorem dX6_cheapestOf_69 : decode cX6_cheapestOf 69 = .ok (.goto (-41), 3) := by decide +kernel
theorem dX6_cheapestOf_72 : decode cX6_cheapestOf 72 = .ok (.iload 5, 2) := by decide +kernel
theorem dX6_cheapestOf_74 : decode cX6_cheapestOf 74 = .ok (.iconst (-1), 1) := by decide +kernel
theorem dX6_cheapestOf_75 : decode cX6_cheapestOf 75 = .ok (.if_icmp .eq 10, 3) := by decide +kernel
theorem dX6_cheapestOf_78 : decode cX6_cheapestOf 78 = .ok (.iload 8, 2) := by decide +kernel
theorem dX6_cheapestOf_80 : decode cX6_cheapestOf 80 = .ok (.iload 6, 2) := by decide +kernel
theorem dX6_cheapestOf_82 : decode cX6_cheapestOf 82 = .ok (.if_icmp .ge 7, 3) := by decide +kernel
theorem dX6_cheapestOf_85 : decode cX6_cheapestOf 85 = .ok (.iconst 1, 1) := by decide +kernel
theorem dX6_cheapestOf_86 : decode cX6_cheapestOf 86 = .ok (.goto 4, 3) := by decide +kernel
theorem dX6_cheapestOf_89 : decode cX6_cheapestOf 89 = .ok (.iconst 0, 1) := by decide +kernel
theorem dX6_cheapestOf_90 : decode cX6_cheapestOf 90 = .ok (.istore 9, 2) := by decide +kernel
theorem dX6_cheapestOf_92 : decode cX6_cheapestOf 92 = .ok (.iload 9, 2) := by decide +kernel
theorem dX6_cheapestOf_94 : decode cX6_cheapestOf 94 = .ok (.ifCond .eq 8, 3) := by decide +kernel
theorem dX6_cheapestOf_97 : decode cX6_cheapestOf 97 = .ok (.iload 7, 2) := by decide +kernel
theorem dX6_cheapestOf_99 : decode cX6_cheapestOf 99 = .ok (.goto 5, 3) := by decide +kernel
theorem dX6_cheapestOf_102 : decode cX6_cheapestOf 102 = .ok (.iload 5, 2) := by decide +kernel
theorem dX6_cheapestOf_104 : decode cX6_cheapestOf 104 = .ok (.istore 5, 2) := by decide +kernel
theorem dX6_cheapestOf_106 : decode cX6_cheapestOf 106 = .ok (.iload 9, 2) := by decide +kernel
theorem dX6_cheapestOf_108 : decode cX6_cheapestOf 108 = .ok (.ifCond .eq 8, 3) := by decide +kernel
theorem dX6_cheapestOf_111 : decode cX6_cheapestOf 111 = .ok (.iload 8, 2) := by decide +kernel
theorem dX6_cheapestOf_113 : decode cX6_cheapestOf 113 = .ok (.goto 5, 3) := by decide +kernel
theorem dX6_cheapestOf_116 : decode cX6_cheapestOf 116 = .ok (.iload 6, 2) := by decide +kernel
theorem dX6_cheapestOf_118 : decode cX6_cheapestOf 118 = .ok (.istore 6, 2) := by decide +kernel
theorem dX6_cheapestOf_120 : decode cX6_cheapestOf 120 = .ok (.iinc 7 1, 3) := by decide +kernel
theorem dX6_cheapestOf_123 : decode cX6_cheapestOf 123 = .ok (.goto (-110), 3) := by decide +kernel
theorem dX6_cheapestOf_126 : decode cX6_cheapestOf 126 = .ok (.iload 4, 2) := by decide +kernel
theorem dX6_cheapestOf_128 : decode cX6_cheapestOf 128 = .ok (.ifCond .ne 8, 3) := by decide +kernel
theorem dX6_cheapestOf_131 : decode cX6_cheapestOf 131 = .ok (.iload 5, 2) := by decide +kernel
theorem dX6_cheapestOf_133 : decode cX6_cheapestOf 133 = .ok (.goto 5, 3) := by decide +kernel
theorem dX6_cheapestOf_136 : decode cX6_cheapestOf 136 = .ok (.iload 6, 2) := by decide +kernel
theorem dX6_cheapestOf_138 : decode cX6_cheapestOf 138 = .ok (.ireturn, 1) := by decide +kernel
theorem dX6_cheapest_0 : decode cX6_cheapest 0 = .ok (.aload_n 0, 1) := by decide +kernel
theorem dX6_cheapest_1 : decode cX6_cheapest 1 = .ok (.iload_n 1, 1) := by decide +kernel
theorem dX6_cheapest_2 : decode cX6_cheapest 2 = .ok (.invokevirtual 137, 3) := by decide +kernel
theorem dX6_cheapest_5 : decode cX6_cheapest 5 = .ok (.ifCond .eq 40, 3) := by decide +kernel
theorem dX6_cheapest_8 : decode cX6_cheapest 8 = .ok (.iload_n 2, 1) := by decide +kernel
theorem dX6_cheapest_9 : decode cX6_cheapest 9 = .ok (.iconst 1, 1) := by decide +kernel
theorem dX6_cheapest_10 : decode cX6_cheapest 10 = .ok (.bipush 9, 2) := by decide +kernel
theorem dX6_cheapest_12 : decode cX6_cheapest 12 = .ok (.invokestatic 106, 3) := by decide +kernel
theorem dX6_cheapest_15 : decode cX6_cheapest 15 = .ok (.ifCond .eq 30, 3) := by decide +kernel
theorem dX6_cheapest_18 : decode cX6_cheapest 18 = .ok (.iload_n 3, 1) := by decide +kernel
theorem dX6_cheapest_19 : decode cX6_cheapest 19 = .ok (.invokestatic 151, 3) := by decide +kernel
theorem dX6_cheapest_22 : decode cX6_cheapest 22 = .ok (.ifCond .eq 23, 3) := by decide +kernel
theorem dX6_cheapest_25 : decode cX6_cheapest 25 = .ok (.iload 4, 2) := by decide +kernel
theorem dX6_cheapest_27 : decode cX6_cheapest 27 = .ok (.invokestatic 145, 3) := by decide +kernel
theorem dX6_cheapest_30 : decode cX6_cheapest 30 = .ok (.ifCond .eq 15, 3) := by decide +kernel
theorem dX6_cheapest_33 : decode cX6_cheapest 33 = .ok (.aload_n 0, 1) := by decide +kernel
theorem dX6_cheapest_34 : decode cX6_cheapest 34 = .ok (.iload_n 1, 1) := by decide +kernel
theorem dX6_cheapest_35 : decode cX6_cheapest 35 = .ok (.iload_n 2, 1) := by decide +kernel
theorem dX6_cheapest_36 : decode cX6_cheapest 36 = .ok (.iload_n 3, 1) := by decide +kernel
theorem dX6_cheapest_37 : decode cX6_cheapest 37 = .ok (.iload 4, 2) := by decide +kernel
theorem dX6_cheapest_39 : decode cX6_cheapest 39 = .ok (.invokevirtual 228, 3) := by decide +kernel
theorem dX6_cheapest_42 : decode cX6_cheapest 42 = .ok (.goto 5, 3) := by decide +kernel
theorem dX6_cheapest_45 : decode cX6_cheapest 45 = .ok (.bipush (-2), 2) := by decide +kernel
theorem dX6_cheapest_47 : decode cX6_cheapest 47 = .ok (.ireturn, 1) := by decide +kernel
theorem dX6_finishBy_0 : decode cX6_finishBy 0 = .ok (.iload_n 1, 1) := by decide +kernel
theorem dX6_finishBy_1 : decode cX6_finishBy 1 = .ok (.istore_n 2, 1) := by decide +kernel
theorem dX6_finishBy_2 : decode cX6_finishBy 2 = .ok (.iconst 0, 1) := by decide +kernel
theorem dX6_finishBy_3 : decode cX6_finishBy 3 = .ok (.istore_n 3, 1) := by decide +kernel
theorem dX6_finishBy_4 : decode cX6_finishBy 4 = .ok (.iload_n 3, 1) := by decide +kernel
theorem dX6_finishBy_5 : decode cX6_finishBy 5 = .ok (.aload_n 0, 1) := by decide +kernel
theorem dX6_finishBy_6 : decode cX6_finishBy 6 = .ok (.getfield 16, 3) := by decide +kernel
theorem dX6_finishBy_9 : decode cX6_finishBy 9 = .ok (.iconst 4, 1) := by decide +kernel
theorem dX6_finishBy_10 : decode cX6_finishBy 10 = .ok (.iaload, 1) := by decide +kernel
theorem dX6_finishBy_11 : decode cX6_finishBy 11 = .ok (.if_icmp .ge 69, 3) := by decide +kernel
theorem dX6_finishBy_14 : decode cX6_finishBy 14 = .ok (.aload_n 0, 1) := by decide +kernel
theorem dX6_finishBy_15 : decode cX6_finishBy 15 = .ok (.getfield 64, 3) := by decide +kernel
theorem dX6_finishBy_18 : decode cX6_finishBy 18 = .ok (.iload_n 3, 1) := by decide +kernel
theorem dX6_finishBy_19 : decode cX6_finishBy 19 = .ok (.iaload, 1) := by decide +kernel
theorem dX6_finishBy_20 : decode cX6_finishBy 20 = .ok (.istore 4, 2) := by decide +kernel
theorem dX6_finishBy_22 : decode cX6_finishBy 22 = .ok (.aload_n 0, 1) := by decide +kernel
theorem dX6_finishBy_23 : decode cX6_finishBy 23 = .ok (.getfield 61, 3) := by decide +kernel
theorem dX6_finishBy_26 : decode cX6_finishBy 26 = .ok (.iload_n 3, 1) := by decide +kernel
theorem dX6_finishBy_27 : decode cX6_finishBy 27 = .ok (.aload_n 0, 1) := by decide +kernel
theorem dX6_finishBy_28 : decode cX6_finishBy 28 = .ok (.aload_n 0, 1) := by decide +kernel
theorem dX6_finishBy_29 : decode cX6_finishBy 29 = .ok (.getfield 43, 3) := by decide +kernel
theorem dX6_finishBy_32 : decode cX6_finishBy 32 = .ok (.iload 4, 2) := by decide +kernel
theorem dX6_finishBy_34 : decode cX6_finishBy 34 = .ok (.iaload, 1) := by decide +kernel
theorem dX6_finishBy_35 : decode cX6_finishBy 35 = .ok (.aload_n 0, 1) := by decide +kernel
theorem dX6_finishBy_36 : decode cX6_finishBy 36 = .ok (.getfield 46, 3) := by decide +kernel
theorem dX6_finishBy_39 : decode cX6_finishBy 39 = .ok (.iload 4, 2) := by decide +kernel
theorem dX6_finishBy_41 : decode cX6_finishBy 41 = .ok (.iaload, 1) := by decide +kernel
theorem dX6_finishBy_42 : decode cX6_finishBy 42 = .ok (.iload_n 2, 1) := by decide +kernel
theorem dX6_finishBy_43 : decode cX6_finishBy 43 = .ok (.invokevirtual 221, 3) := by decide +kernel
theorem dX6_finishBy_46 : decode cX6_finishBy 46 = .ok (.iastore, 1) := by decide +kernel
theorem dX6_finishBy_47 : decode cX6_finishBy 47 = .ok (.aload_n 0, 1) := by decide +kernel
theorem dX6_finishBy_48 : decode cX6_finishBy 48 = .ok (.getfield 61, 3) := by decide +kernel
theorem dX6_finishBy_51 : decode cX6_finishBy 51 = .ok (.iload_n 3, 1) := by decide +kernel
theorem dX6_finishBy_52 : decode cX6_finishBy 52 = .ok (.iaload, 1) := by decide +kernel
theorem dX6_finishBy_53 : decode cX6_finishBy 53 = .ok (.iconst (-1), 1) := by decide +kernel
theorem dX6_finishBy_54 : decode cX6_finishBy 54 = .ok (.if_icmp .ne 5, 3) := by decide +kernel
theorem dX6_finishBy_57 : decode cX6_finishBy 57 = .ok (.iconst (-1), 1) := by decide +kernel
theorem dX6_finishBy_58 : decode cX6_finishBy 58 = .ok (.ireturn, 1) := by decide +kernel
theorem dX6_finishBy_59 : decode cX6_finishBy 59 = .ok (.aload_n 0, 1) := by decide +kernel
theorem dX6_finishBy_60 : decode cX6_finishBy 60 = .ok (.getfield 61, 3) := by decide +kernel
theorem dX6_finishBy_63 : decode cX6_finishBy 63 = .ok (.iload_n 3, 1) := by decide +kernel
theorem dX6_finishBy_64 : decode cX6_finishBy 64 = .ok (.iaload, 1) := by decide +kernel
theorem dX6_finishBy_65 : decode cX6_finishBy 65 = .ok (.aload_n 0, 1) := by decide +kernel
theorem dX6_finishBy_66 : decode cX6_finishBy 66 = .ok (.getfield 46, 3) := by decide +kernel
theorem dX6_finishBy_69 : decode cX6_finishBy 69 = .ok (.iload 4, 2) := by decide +kernel
theorem dX6_finishBy_71 : decode cX6_finishBy 71 = .ok (.iaload, 1) := by decide +kernel
theorem dX6_finishBy_72 : decode cX6_finishBy 72 = .ok (.iadd, 1) := by decide +kernel
theorem dX6_finishBy_73 : decode cX6_finishBy 73 = .ok (.istore_n 2, 1) := by decide +kernel
theorem dX6_finishBy_74 : decode cX6_finishBy 74 = .ok (.iinc 3 1, 3) := by decide +kernel
theorem dX6_finishBy_77 : decode cX6_finishBy 77 = .ok (.goto (-73), 3) := by decide +kernel
theorem dX6_finishBy_80 : decode cX6_finishBy 80 = .ok (.aload_n 0, 1) := by decide +kernel
theorem dX6_finishBy_81 : decode cX6_finishBy 81 = .ok (.getfield 16, 3) := by decide +kernel
theorem dX6_finishBy_84 : decode cX6_finishBy 84 = .ok (.iconst 4, 1) := by decide +kernel
theorem dX6_finishBy_85 : decode cX6_finishBy 85 = .ok (.iaload, 1) := by decide +kernel
theorem dX6_finishBy_86 : decode cX6_finishBy 86 = .ok (.ifCond .ne 7, 3) := by decide +kernel
theorem dX6_finishBy_89 : decode cX6_finishBy 89 = .ok (.iconst (-1), 1) := by decide +kernel
theorem dX6_finishBy_90 : decode cX6_finishBy 90 = .ok (.goto 6, 3) := by decide +kernel
theorem dX6_finishBy_93 : decode cX6_finishBy 93 = .ok (.iload_n 2, 1) := by decide +kernel
theorem dX6_finishBy_94 : decode cX6_finishBy 94 = .ok (.iconst 1, 1) := by decide +kernel
theorem dX6_finishBy_95 : decode cX6_finishBy 95 = .ok (.isub, 1) := by decide +kernel
theorem dX6_finishBy_96 : decode cX6_finishBy 96 = .ok (.ireturn, 1) := by decide +kernel
theorem dX6_finishOf_0 : decode cX6_finishOf 0 = .ok (.aload_n 0, 1) := by decide +kernel
theorem dX6_finishOf_1 : decode cX6_finishOf 1 = .ok (.invokevirtual 194, 3) := by decide +kernel
theorem dX6_finishOf_4 : decode cX6_finishOf 4 = .ok (.iconst 0, 1) := by decide +kernel
theorem dX6_finishOf_5 : decode cX6_finishOf 5 = .ok (.istore_n 3, 1) := by decide +kernel
theorem dX6_finishOf_6 : decode cX6_finishOf 6 = .ok (.iload_n 3, 1) := by decide +kernel
theorem dX6_finishOf_7 : decode cX6_finishOf 7 = .ok (.bipush 6, 2) := by decide +kernel
theorem dX6_finishOf_9 : decode cX6_finishOf 9 = .ok (.if_icmp .ge 16, 3) := by decide +kernel
theorem dX6_finishOf_12 : decode cX6_finishOf 12 = .ok (.aload_n 0, 1) := by decide +kernel
theorem dX6_finishOf_13 : decode cX6_finishOf 13 = .ok (.getfield 64, 3) := by decide +kernel
theorem dX6_finishOf_16 : decode cX6_finishOf 16 = .ok (.iload_n 3, 1) := by decide +kernel
theorem dX6_finishOf_17 : decode cX6_finishOf 17 = .ok (.iload_n 3, 1) := by decide +kernel
theorem dX6_finishOf_18 : decode cX6_finishOf 18 = .ok (.iastore, 1) := by decide +kernel
theorem dX6_finishOf_19 : decode cX6_finishOf 19 = .ok (.iinc 3 1, 3) := by decide +kernel
theorem dX6_finishOf_22 : decode cX6_finishOf 22 = .ok (.goto (-16), 3) := by decide +kernel
theorem dX6_finishOf_25 : decode cX6_finishOf 25 = .ok (.aload_n 0, 1) := by decide +kernel
theorem dX6_finishOf_26 : decode cX6_finishOf 26 = .ok (.iload_n 1, 1) := by decide +kernel
theorem dX6_finishOf_27 : decode cX6_finishOf 27 = .ok (.invokevirtual 232, 3) := by decide +kernel
theorem dX6_finishOf_30 : decode cX6_finishOf 30 = .ok (.istore_n 3, 1) := by decide +kernel
theorem dX6_finishOf_31 : decode cX6_finishOf 31 = .ok (.iload_n 2, 1) := by decide +kernel
theorem dX6_finishOf_32 : decode cX6_finishOf 32 = .ok (.iconst (-1), 1) := by decide +kernel
theorem dX6_finishOf_33 : decode cX6_finishOf 33 = .ok (.if_icmp .eq 8, 3) := by decide +kernel
theorem dX6_finishOf_36 : decode cX6_finishOf 36 = .ok (.iload_n 3, 1) := by decide +kernel
theorem dX6_finishOf_37 : decode cX6_finishOf 37 = .ok (.iconst (-1), 1) := by decide +kernel
theorem dX6_finishOf_38 : decode cX6_finishOf 38 = .ok (.if_icmp .ne 7, 3) := by decide +kernel
theorem dX6_finishOf_41 : decode cX6_finishOf 41 = .ok (.iload_n 3, 1) := by decide +kernel
theorem dX6_finishOf_42 : decode cX6_finishOf 42 = .ok (.goto 23, 3) := by decide +kernel
theorem dX6_finishOf_45 : decode cX6_finishOf 45 = .ok (.iload_n 2, 1) := by decide +kernel
theorem dX6_finishOf_46 : decode cX6_finishOf 46 = .ok (.aload_n 0, 1) := by decide +kernel
theorem dX6_finishOf_47 : decode cX6_finishOf 47 = .ok (.getfield 16, 3) := by decide +kernel
theorem dX6_finishOf_50 : decode cX6_finishOf 50 = .ok (.iconst 4, 1) := by decide +kernel
theorem dX6_finishOf_51 : decode cX6_finishOf 51 = .ok (.iaload, 1) := by decide +kernel
theorem dX6_finishOf_52 : decode cX6_finishOf 52 = .ok (.if_icmp .ge 12, 3) := by decide +kernel
theorem dX6_finishOf_55 : decode cX6_finishOf 55 = .ok (.aload_n 0, 1) := by decide +kernel
theorem dX6_finishOf_56 : decode cX6_finishOf 56 = .ok (.getfield 61, 3) := by decide +kernel
theorem dX6_finishOf_59 : decode cX6_finishOf 59 = .ok (.iload_n 2, 1) := by decide +kernel
theorem dX6_finishOf_60 : decode cX6_finishOf 60 = .ok (.iaload, 1) := by decide +kernel
theorem dX6_finishOf_61 : decode cX6_finishOf 61 = .ok (.goto 4, 3) := by decide +kernel
theorem dX6_finishOf_64 : decode cX6_finishOf 64 = .ok (.iconst (-1), 1) := by decide +kernel
theorem dX6_finishOf_65 : decode cX6_finishOf 65 = .ok (.ireturn, 1) := by decide +kernel
theorem dX6_finish_0 : decode cX6_finish 0 = .ok (.iload_n 1, 1) := by decide +kernel
theorem dX6_finish_1 : decode cX6_finish 1 = .ok (.invokestatic 151, 3) := by decide +kernel
theorem dX6_finish_4 : decode cX6_finish 4 = .ok (.ifCond .eq 21, 3) := by decide +kernel
theorem dX6_finish_7 : decode cX6_finish 7 = .ok (.iload_n 2, 1) := by decide +kernel
theorem dX6_finish_8 : decode cX6_finish 8 = .ok (.iconst (-1), 1) := by decide +kernel
theorem dX6_finish_9 : decode cX6_finish 9 = .ok (.iconst 5, 1) := by decide +kernel
theorem dX6_finish_10 : decode cX6_finish 10 = .ok (.invokestatic 106, 3) := by decide +kernel
theorem dX6_finish_13 : decode cX6_finish 13 = .ok (.ifCond .eq 12, 3) := by decide +kernel
theorem dX6_finish_16 : decode cX6_finish 16 = .ok (.aload_n 0, 1) := by decide +kernel
theorem dX6_finish_17 : decode cX6_finish 17 = .ok (.iload_n 1, 1) := by decide +kernel
theorem dX6_finish_18 : decode cX6_finish 18 = .ok (.iload_n 2, 1) := by decide +kernel
theorem dX6_finish_19 : decode cX6_finish 19 = .ok (.invokevirtual 235, 3) := by decide +kernel
theorem dX6_finish_22 : decode cX6_finish 22 = .ok (.goto 5, 3) := by decide +kernel
theorem dX6_finish_25 : decode cX6_finish 25 = .ok (.bipush (-2), 2) := by decide +kernel
theorem dX6_finish_27 : decode cX6_finish 27 = .ok (.ireturn, 1) := by decide +kernel
theorem dX6_planBy_0 : decode cX6_planBy 0 = .ok (.aload_n 0, 1) := by decide +kernel
theorem dX6_planBy_1 : decode cX6_planBy 1 = .ok (.getfield 16, 3) := by decide +kernel
theorem dX6_planBy_4 : decode cX6_planBy 4 = .ok (.iconst 4, 1) := by decide +kernel
theorem dX6_planBy_5 : decode cX6_planBy 5 = .ok (.iaload, 1) := by decide +kernel
theorem dX6_planBy_6 : decode cX6_planBy 6 = .ok (.istore_n 2, 1) := by decide +kernel
theorem dX6_planBy_7 : decode cX6_planBy 7 = .ok (.iconst 1, 1) := by decide +kernel
theorem dX6_planBy_8 : decode cX6_planBy 8 = .ok (.istore_n 3, 1) := by decide +kernel
theorem dX6_planBy_9 : decode cX6_planBy 9 = .ok (.iconst 0, 1) := by decide +kernel
theorem dX6_planBy_10 : decode cX6_planBy 10 = .ok (.istore 4, 2) := by decide +kernel
theorem dX6_planBy_12 : decode cX6_planBy 12 = .ok (.iload 4, 2) := by decide +kernel
theorem dX6_planBy_14 : decode cX6_planBy 14 = .ok (.iload_n 2, 1) := by decide +kernel
theorem dX6_planBy_15 : decode cX6_planBy 15 = .ok (.if_icmp .ge 13, 3) := by decide +kernel
theorem dX6_planBy_18 : decode cX6_planBy 18 = .ok (.iload_n 3, 1) := by decide +kernel
theorem dX6_planBy_19 : decode cX6_planBy 19 = .ok (.iload_n 2, 1) := by decide +kernel
theorem dX6_planBy_20 : decode cX6_planBy 20 = .ok (.imul, 1) := by decide +kernel
theorem dX6_planBy_21 : decode cX6_planBy 21 = .ok (.istore_n 3, 1) := by decide +kernel
theorem dX6_planBy_22 : decode cX6_planBy 22 = .ok (.iinc 4 1, 3) := by decide +kernel
theorem dX6_planBy_25 : decode cX6_planBy 25 = .ok (.goto (-13), 3) := by decide +kernel
theorem dX6_planBy_28 : decode cX6_planBy 28 = .ok (.iconst (-1), 1) := by decide +kernel
theorem dX6_planBy_29 : decode cX6_planBy 29 = .ok (.istore 4, 2) := by decide +kernel
theorem dX6_planBy_31 : decode cX6_planBy 31 = .ok (.iconst 0, 1) := by decide +kernel
theorem dX6_planBy_32 : decode cX6_planBy 32 = .ok (.istore 5, 2) := by decide +kernel
theorem dX6_planBy_34 : decode cX6_planBy 34 = .ok (.iload 5, 2) := by decide +kernel
theorem dX6_planBy_36 : decode cX6_planBy 36 = .ok (.iload_n 3, 1) := by decide +kernel
theorem dX6_planBy_37 : decode cX6_planBy 37 = .ok (.if_icmp .ge 136, 3) := by decide +kernel
theorem dX6_planBy_40 : decode cX6_planBy 40 = .ok (.iload 5, 2) := by decide +kernel
theorem dX6_planBy_42 : decode cX6_planBy 42 = .ok (.istore 6, 2) := by decide +kernel
theorem dX6_planBy_44 : decode cX6_planBy 44 = .ok (.iconst 0, 1) := by decide +kernel
theorem dX6_planBy_45 : decode cX6_planBy 45 = .ok (.istore 7, 2) := by decide +kernel
theorem dX6_planBy_47 : decode cX6_planBy 47 = .ok (.iload_n 2, 1) := by decide +kernel
theorem dX6_planBy_48 : decode cX6_planBy 48 = .ok (.iconst 1, 1) := by decide +kernel
theorem dX6_planBy_49 : decode cX6_planBy 49 = .ok (.isub, 1) := by decide +kernel
theorem dX6_planBy_50 : decode cX6_planBy 50 = .ok (.istore 8, 2) := by decide +kernel
theorem dX6_planBy_52 : decode cX6_planBy 52 = .ok (.iload 8, 2) := by decide +kernel
theorem dX6_planBy_54 : decode cX6_planBy 54 = .ok (.ifCond .lt 40, 3) := by decide +kernel
theorem dX6_planBy_57 : decode cX6_planBy 57 = .ok (.aload_n 0, 1) := by decide +kernel
theorem dX6_planBy_58 : decode cX6_planBy 58 = .ok (.getfield 64, 3) := by decide +kernel
theorem dX6_planBy_61 : decode cX6_planBy 61 = .ok (.iload 8, 2) := by decide +kernel
theorem dX6_planBy_63 : decode cX6_planBy 63 = .ok (.iload 6, 2) := by decide +kernel
theorem dX6_planBy_65 : decode cX6_planBy 65 = .ok (.iload_n 2, 1) := by decide +kernel
theorem dX6_planBy_66 : decode cX6_planBy 66 = .ok (.irem, 1) := by decide +kernel
theorem dX6_planBy_67 : decode cX6_planBy 67 = .ok (.iastore, 1) := by decide +kernel
theorem dX6_planBy_68 : decode cX6_planBy 68 = .ok (.iload 6, 2) := by decide +kernel
theorem dX6_planBy_70 : decode cX6_planBy 70 = .ok (.iload_n 2, 1) := by decide +kernel
theorem dX6_planBy_71 : decode cX6_planBy 71 = .ok (.idiv, 1) := by decide +kernel
theorem dX6_planBy_72 : decode cX6_planBy 72 = .ok (.istore 6, 2) := by decide +kernel
theorem dX6_planBy_74 : decode cX6_planBy 74 = .ok (.iload 7, 2) := by decide +kernel
theorem dX6_planBy_76 : decode cX6_planBy 76 = .ok (.iconst 1, 1) := by decide +kernel
theorem dX6_planBy_77 : decode cX6_planBy 77 = .ok (.aload_n 0, 1) := by decide +kernel
theorem dX6_planBy_78 : decode cX6_planBy 78 = .ok (.getfield 64, 3) := by decide +kernel
theorem dX6_planBy_81 : decode cX6_planBy 81 = .ok (.iload 8, 2) := by decide +kernel
theorem dX6_planBy_83 : decode cX6_planBy 83 = .ok (.iaload, 1) := by decide +kernel
theorem dX6_planBy_84 : decode cX6_planBy 84 = .ok (.ishl, 1) := by decide +kernel
theorem dX6_planBy_85 : decode cX6_planBy 85 = .ok (.ior, 1) := by decide +kernel
theorem dX6_planBy_86 : decode cX6_planBy 86 = .ok (.istore 7, 2) := by decide +kernel
theorem dX6_planBy_88 : decode cX6_planBy 88 = .ok (.iinc 8 (-1), 3) := by decide +kernel
theorem dX6_planBy_91 : decode cX6_planBy 91 = .ok (.goto (-39), 3) := by decide +kernel
theorem dX6_planBy_94 : decode cX6_planBy 94 = .ok (.iload 7, 2) := by decide +kernel
theorem dX6_planBy_96 : decode cX6_planBy 96 = .ok (.iconst 1, 1) := by decide +kernel
theorem dX6_planBy_97 : decode cX6_planBy 97 = .ok (.iload_n 2, 1) := by decide +kernel
theorem dX6_planBy_98 : decode cX6_planBy 98 = .ok (.ishl, 1) := by decide +kernel
theorem dX6_planBy_99 : decode cX6_planBy 99 = .ok (.iconst 1, 1) := by decide +kernel
theorem dX6_planBy_100 : decode cX6_planBy 100 = .ok (.isub, 1) := by decide +kernel
theorem dX6_planBy_101 : decode cX6_planBy 101 = .ok (.if_icmp .ne 11, 3) := by decide +kernel
theorem dX6_planBy_104 : decode cX6_planBy 104 = .ok (.aload_n 0, 1) := by decide +kernel
theorem dX6_planBy_105 : decode cX6_planBy 105 = .ok (.iload_n 1, 1) := by decide +kernel
theorem dX6_planBy_106 : decode cX6_planBy 106 = .ok (.invokevirtual 232, 3) := by decide +kernel
theorem dX6_planBy_109 : decode cX6_planBy 109 = .ok (.goto 4, 3) := by decide +kernel
theorem dX6_planBy_112 : decode cX6_planBy 112 = .ok (.iconst (-1), 1) := by decide +kernel
theorem dX6_planBy_113 : decode cX6_planBy 113 = .ok (.istore 8, 2) := by decide +kernel
theorem dX6_planBy_115 : decode cX6_planBy 115 = .ok (.iload 8, 2) := by decide +kernel
theorem dX6_planBy_117 : decode cX6_planBy 117 = .ok (.iconst (-1), 1) := by decide +kernel
theorem dX6_planBy_118 : decode cX6_planBy 118 = .ok (.if_icmp .eq 49, 3) := by decide +kernel
theorem dX6_planBy_121 : decode cX6_planBy 121 = .ok (.iload 4, 2) := by decide +kernel
theorem dX6_planBy_123 : decode cX6_planBy 123 = .ok (.iconst (-1), 1) := by decide +kernel
theorem dX6_planBy_124 : decode cX6_planBy 124 = .ok (.if_icmp .eq 10, 3) := by decide +kernel
theorem dX6_planBy_127 : decode cX6_planBy 127 = .ok (.iload 8, 2) := by decide +kernel
theorem dX6_planBy_129 : decode cX6_planBy 129 = .ok (.iload 4, 2) := by decide +kernel
theorem dX6_planBy_131 : decode cX6_planBy 131 = .ok (.if_icmp .ge 36, 3) := by decide +kernel
theorem dX6_planBy_134 : decode cX6_planBy 134 = .ok (.iload 8, 2) := by decide +kernel
theorem dX6_planBy_136 : decode cX6_planBy 136 = .ok (.istore 4, 2) := by decide +kernel
theorem dX6_planBy_138 : decode cX6_planBy 138 = .ok (.iconst 0, 1) := by decide +kernel
theorem dX6_planBy_139 : decode cX6_planBy 139 = .ok (.istore 9, 2) := by decide +kernel
theorem dX6_planBy_141 : decode cX6_planBy 141 = .ok (.iload 9, 2) := by decide +kernel
theorem dX6_planBy_143 : decode cX6_planBy 143 = .ok (.iload_n 2, 1) := by decide +kernel
theorem dX6_planBy_144 : decode cX6_planBy 144 = .ok (.if_icmp .ge 23, 3) := by decide +kernel
theorem dX6_planBy_147 : decode cX6_planBy 147 = .ok (.aload_n 0, 1) := by decide +kernel
theorem dX6_planBy_148 : decode cX6_planBy 148 = .ok (.getfield 67, 3) := by decide +kernel
theorem dX6_planBy_151 : decode cX6_planBy 151 = .ok (.iload 9, 2) := by decide +kernel
theorem dX6_planBy_153 : decode cX6_planBy 153 = .ok (.aload_n 0, 1) := by decide +kernel
theorem dX6_planBy_154 : decode cX6_planBy 154 = .ok (.getfield 64, 3) := by decide +kernel
theorem dX6_planBy_157 : decode cX6_planBy 157 = .ok (.iload 9, 2) := by decide +kernel
theorem dX6_planBy_159 : decode cX6_planBy 159 = .ok (.iaload, 1) := by decide +kernel
theorem dX6_planBy_160 : decode cX6_planBy 160 = .ok (.iastore, 1) := by decide +kernel
theorem dX6_planBy_161 : decode cX6_planBy 161 = .ok (.iinc 9 1, 3) := by decide +kernel
theorem dX6_planBy_164 : decode cX6_planBy 164 = .ok (.goto (-23), 3) := by decide +kernel
theorem dX6_planBy_167 : decode cX6_planBy 167 = .ok (.iinc 5 1, 3) := by decide +kernel
theorem dX6_planBy_170 : decode cX6_planBy 170 = .ok (.goto (-136), 3) := by decide +kernel
theorem dX6_planBy_173 : decode cX6_planBy 173 = .ok (.iload 4, 2) := by decide +kernel
theorem dX6_planBy_175 : decode cX6_planBy 175 = .ok (.ireturn, 1) := by decide +kernel
theorem dX6_planOf_0 : decode cX6_planOf 0 = .ok (.aload_n 0, 1) := by decide +kernel
theorem dX6_planOf_1 : decode cX6_planOf 1 = .ok (.invokevirtual 194, 3) := by decide +kernel
theorem dX6_planOf_4 : decode cX6_planOf 4 = .ok (.aload_n 0, 1) := by decide +kernel
theorem dX6_planOf_5 : decode cX6_planOf 5 = .ok (.iload_n 1, 1) := by decide +kernel
theorem dX6_planOf_6 : decode cX6_planOf 6 = .ok (.invokevirtual 238, 3) := by decide +kernel
theorem dX6_planOf_9 : decode cX6_planOf 9 = .ok (.istore_n 3, 1) := by decide +kernel
theorem dX6_planOf_10 : decode cX6_planOf 10 = .ok (.iload_n 2, 1) := by decide +kernel
theorem dX6_planOf_11 : decode cX6_planOf 11 = .ok (.iconst (-1), 1) := by decide +kernel
theorem dX6_planOf_12 : decode cX6_planOf 12 = .ok (.if_icmp .eq 8, 3) := by decide +kernel
theorem dX6_planOf_15 : decode cX6_planOf 15 = .ok (.iload_n 3, 1) := by decide +kernel
theorem dX6_planOf_16 : decode cX6_planOf 16 = .ok (.iconst (-1), 1) := by decide +kernel
theorem dX6_planOf_17 : decode cX6_planOf 17 = .ok (.if_icmp .ne 7, 3) := by decide +kernel
theorem dX6_planOf_20 : decode cX6_planOf 20 = .ok (.iload_n 3, 1) := by decide +kernel
theorem dX6_planOf_21 : decode cX6_planOf 21 = .ok (.goto 23, 3) := by decide +kernel
theorem dX6_planOf_24 : decode cX6_planOf 24 = .ok (.iload_n 2, 1) := by decide +kernel
theorem dX6_planOf_25 : decode cX6_planOf 25 = .ok (.aload_n 0, 1) := by decide +kernel
theorem dX6_planOf_26 : decode cX6_planOf 26 = .ok (.getfield 16, 3) := by decide +kernel
theorem dX6_planOf_29 : decode cX6_planOf 29 = .ok (.iconst 4, 1) := by decide +kernel
theorem dX6_planOf_30 : decode cX6_planOf 30 = .ok (.iaload, 1) := by decide +kernel
theorem dX6_planOf_31 : decode cX6_planOf 31 = .ok (.if_icmp .ge 12, 3) := by decide +kernel
theorem dX6_planOf_34 : decode cX6_planOf 34 = .ok (.aload_n 0, 1) := by decide +kernel
theorem dX6_planOf_35 : decode cX6_planOf 35 = .ok (.getfield 67, 3) := by decide +kernel
theorem dX6_planOf_38 : decode cX6_planOf 38 = .ok (.iload_n 2, 1) := by decide +kernel
theorem dX6_planOf_39 : decode cX6_planOf 39 = .ok (.iaload, 1) := by decide +kernel
theorem dX6_planOf_40 : decode cX6_planOf 40 = .ok (.goto 4, 3) := by decide +kernel
theorem dX6_planOf_43 : decode cX6_planOf 43 = .ok (.iconst (-1), 1) := by decide +kernel
theorem dX6_planOf_44 : decode cX6_planOf 44 = .ok (.ireturn, 1) := by decide +kernel
theorem dX6_plan_0 : decode cX6_plan 0 = .ok (.iload_n 1, 1) := by decide +kernel
theorem dX6_plan_1 : decode cX6_plan 1 = .ok (.invokestatic 151, 3) := by decide +kernel
theorem dX6_plan_4 : decode cX6_plan 4 = .ok (.ifCond .eq 21, 3) := by decide +kernel
theorem dX6_plan_7 : decode cX6_plan 7 = .ok (.iload_n 2, 1) := by decide +kernel
theorem dX6_plan_8 : decode cX6_plan 8 = .ok (.iconst (-1), 1) := by decide +kernel
theorem dX6_plan_9 : decode cX6_plan 9 = .ok (.iconst 5, 1) := by decide +kernel
theorem dX6_plan_10 : decode cX6_plan 10 = .ok (.invokestatic 106, 3) := by decide +kernel
theorem dX6_plan_13 : decode cX6_plan 13 = .ok (.ifCond .eq 12, 3) := by decide +kernel
theorem dX6_plan_16 : decode cX6_plan 16 = .ok (.aload_n 0, 1) := by decide +kernel
theorem dX6_plan_17 : decode cX6_plan 17 = .ok (.iload_n 1, 1) := by decide +kernel
theorem dX6_plan_18 : decode cX6_plan 18 = .ok (.iload_n 2, 1) := by decide +kernel
theorem dX6_plan_19 : decode cX6_plan 19 = .ok (.invokevirtual 241, 3) := by decide +kernel
theorem dX6_plan_22 : decode cX6_plan 22 = .ok (.goto 5, 3) := by decide +kernel
theorem dX6_plan_25 : decode cX6_plan 25 = .ok (.bipush (-2), 2) := by decide +kernel
theorem dX6_plan_27 : decode cX6_plan 27 = .ok (.ireturn, 1) := by decide +kernel
theorem dX6_isWord_0 : decode cX6_isWord 0 = .ok (.aload_n 0, 1) := by decide +kernel
theorem dX6_isWord_1 : decode cX6_isWord 1 = .ok (.iload_n 1, 1) := by decide +kernel
theorem dX6_isWord_2 : decode cX6_isWord 2 = .ok (.invokevirtual 173, 3) := by decide +kernel
theorem dX6_isWord_5 : decode cX6_isWord 5 = .ok (.iconst 0, 1) := by decide +kernel
theorem dX6_isWord_6 : decode cX6_isWord 6 = .ok (.iconst 1, 1) := by decide +kernel
theorem dX6_isWord_7 : decode cX6_isWord 7 = .ok (.invokestatic 106, 3) := by decide +kernel
theorem dX6_isWord_10 : decode cX6_isWord 10 = .ok (.istore_n 3, 1) := by decide +kernel
theorem dX6_isWord_11 : decode cX6_isWord 11 = .ok (.iload_n 2, 1) := by decide +kernel
theorem dX6_isWord_12 : decode cX6_isWord 12 = .ok (.bipush 8, 2) := by decide +kernel
theorem dX6_isWord_14 : decode cX6_isWord 14 = .ok (.if_icmp .eq 15, 3) := by decide +kernel
theorem dX6_isWord_17 : decode cX6_isWord 17 = .ok (.iload_n 3, 1) := by decide +kernel
theorem dX6_isWord_18 : decode cX6_isWord 18 = .ok (.ifCond .eq 15, 3) := by decide +kernel
theorem dX6_isWord_21 : decode cX6_isWord 21 = .ok (.iload_n 2, 1) := by decide +kernel
theorem dX6_isWord_22 : decode cX6_isWord 22 = .ok (.aload_n 0, 1) := by decide +kernel
theorem dX6_isWord_23 : decode cX6_isWord 23 = .ok (.getfield 114, 3) := by decide +kernel
theorem dX6_isWord_26 : decode cX6_isWord 26 = .ok (.if_icmp .ge 7, 3) := by decide +kernel
theorem dX6_isWord_29 : decode cX6_isWord 29 = .ok (.iconst 1, 1) := by decide +kernel
theorem dX6_isWord_30 : decode cX6_isWord 30 = .ok (.goto 4, 3) := by decide +kernel
theorem dX6_isWord_33 : decode cX6_isWord 33 = .ok (.iconst 0, 1) := by decide +kernel
theorem dX6_isWord_34 : decode cX6_isWord 34 = .ok (.ireturn, 1) := by decide +kernel
theorem dX6_laysOuts_0 : decode cX6_laysOuts 0 = .ok (.iconst 0, 1) := by decide +kernel
theorem dX6_laysOuts_1 : decode cX6_laysOuts 1 = .ok (.istore 4, 2) := by decide +kernel
theorem dX6_laysOuts_3 : decode cX6_laysOuts 3 = .ok (.iload 4, 2) := by decide +kernel
theorem dX6_laysOuts_5 : decode cX6_laysOuts 5 = .ok (.iload_n 3, 1) := by decide +kernel
theorem dX6_laysOuts_6 : decode cX6_laysOuts 6 = .ok (.if_icmp .ge 127, 3) := by decide +kernel
theorem dX6_laysOuts_9 : decode cX6_laysOuts 9 = .ok (.iload 4, 2) := by decide +kernel
theorem dX6_laysOuts_11 : decode cX6_laysOuts 11 = .ok (.istore 5, 2) := by decide +kernel
theorem dX6_laysOuts_13 : decode cX6_laysOuts 13 = .ok (.iconst 1, 1) := by decide +kernel
theorem dX6_laysOuts_14 : decode cX6_laysOuts 14 = .ok (.istore 6, 2) := by decide +kernel
theorem dX6_laysOuts_16 : decode cX6_laysOuts 16 = .ok (.aload_n 0, 1) := by decide +kernel
theorem dX6_laysOuts_17 : decode cX6_laysOuts 17 = .ok (.iload_n 1, 1) := by decide +kernel
theorem dX6_laysOuts_18 : decode cX6_laysOuts 18 = .ok (.putfield 185, 3) := by decide +kernel
theorem dX6_laysOuts_21 : decode cX6_laysOuts 21 = .ok (.aload_n 0, 1) := by decide +kernel
theorem dX6_laysOuts_22 : decode cX6_laysOuts 22 = .ok (.iload_n 2, 1) := by decide +kernel
theorem dX6_laysOuts_23 : decode cX6_laysOuts 23 = .ok (.putfield 179, 3) := by decide +kernel
theorem dX6_laysOuts_26 : decode cX6_laysOuts 26 = .ok (.iload_n 2, 1) := by decide +kernel
theorem dX6_laysOuts_27 : decode cX6_laysOuts 27 = .ok (.iconst 1, 1) := by decide +kernel
theorem dX6_laysOuts_28 : decode cX6_laysOuts 28 = .ok (.isub, 1) := by decide +kernel
theorem dX6_laysOuts_29 : decode cX6_laysOuts 29 = .ok (.istore 7, 2) := by decide +kernel
theorem dX6_laysOuts_31 : decode cX6_laysOuts 31 = .ok (.iload 7, 2) := by decide +kernel
theorem dX6_laysOuts_33 : decode cX6_laysOuts 33 = .ok (.ifCond .lt 58, 3) := by decide +kernel
theorem dX6_laysOuts_36 : decode cX6_laysOuts 36 = .ok (.aload_n 0, 1) := by decide +kernel
theorem dX6_laysOuts_37 : decode cX6_laysOuts 37 = .ok (.getfield 58, 3) := by decide +kernel
theorem dX6_laysOuts_40 : decode cX6_laysOuts 40 = .ok (.iload 7, 2) := by decide +kernel
theorem dX6_laysOuts_42 : decode cX6_laysOuts 42 = .ok (.iload 5, 2) := by decide +kernel
theorem dX6_laysOuts_44 : decode cX6_laysOuts 44 = .ok (.bipush 9, 2) := by decide +kernel
theorem dX6_laysOuts_46 : decode cX6_laysOuts 46 = .ok (.irem, 1) := by decide +kernel
theorem dX6_laysOuts_47 : decode cX6_laysOuts 47 = .ok (.iastore, 1) := by decide +kernel
theorem dX6_laysOuts_48 : decode cX6_laysOuts 48 = .ok (.iload 5, 2) := by decide +kernel
theorem dX6_laysOuts_50 : decode cX6_laysOuts 50 = .ok (.bipush 9, 2) := by decide +kernel
theorem dX6_laysOuts_52 : decode cX6_laysOuts 52 = .ok (.idiv, 1) := by decide +kernel
theorem dX6_laysOuts_53 : decode cX6_laysOuts 53 = .ok (.istore 5, 2) := by decide +kernel
theorem dX6_laysOuts_55 : decode cX6_laysOuts 55 = .ok (.iload 6, 2) := by decide +kernel
theorem dX6_laysOuts_57 : decode cX6_laysOuts 57 = .ok (.ifCond .eq 25, 3) := by decide +kernel
theorem dX6_laysOuts_60 : decode cX6_laysOuts 60 = .ok (.aload_n 0, 1) := by decide +kernel
theorem dX6_laysOuts_61 : decode cX6_laysOuts 61 = .ok (.iload_n 1, 1) := by decide +kernel
theorem dX6_laysOuts_62 : decode cX6_laysOuts 62 = .ok (.iload 7, 2) := by decide +kernel
theorem dX6_laysOuts_64 : decode cX6_laysOuts 64 = .ok (.iadd, 1) := by decide +kernel
theorem dX6_laysOuts_65 : decode cX6_laysOuts 65 = .ok (.aload_n 0, 1) := by decide +kernel
theorem dX6_laysOuts_66 : decode cX6_laysOuts 66 = .ok (.getfield 58, 3) := by decide +kernel
theorem dX6_laysOuts_69 : decode cX6_laysOuts 69 = .ok (.iload 7, 2) := by decide +kernel
theorem dX6_laysOuts_71 : decode cX6_laysOuts 71 = .ok (.iaload, 1) := by decide +kernel
theorem dX6_laysOuts_72 : decode cX6_laysOuts 72 = .ok (.invokevirtual 244, 3) := by decide +kernel
theorem dX6_laysOuts_75 : decode cX6_laysOuts 75 = .ok (.ifCond .eq 7, 3) := by decide +kernel
theorem dX6_laysOuts_78 : decode cX6_laysOuts 78 = .ok (.iconst 1, 1) := by decide +kernel
theorem dX6_laysOuts_79 : decode cX6_laysOuts 79 = .ok (.goto 4, 3) := by decide +kernel
theorem dX6_laysOuts_82 : decode cX6_laysOuts 82 = .ok (.iconst 0, 1) := by decide +kernel
theorem dX6_laysOuts_83 : decode cX6_laysOuts 83 = .ok (.istore 6, 2) := by decide +kernel
theorem dX6_laysOuts_85 : decode cX6_laysOuts 85 = .ok (.iinc 7 (-1), 3) := by decide +kernel
theorem dX6_laysOuts_88 : decode cX6_laysOuts 88 = .ok (.goto (-57), 3) := by decide +kernel
theorem dX6_laysOuts_91 : decode cX6_laysOuts 91 = .ok (.iload 6, 2) := by decide +kernel
theorem dX6_laysOuts_93 : decode cX6_laysOuts 93 = .ok (.ifCond .eq 7, 3) := by decide +kernel
theorem dX6_laysOuts_96 : decode cX6_laysOuts 96 = .ok (.aload_n 0, 1) := by decide +kernel
theorem dX6_laysOuts_97 : decode cX6_laysOuts 97 = .ok (.invokevirtual 191, 3) := by decide +kernel
theorem dX6_laysOuts_100 : decode cX6_laysOuts 100 = .ok (.aload_n 0, 1) := by decide +kernel
theorem dX6_laysOuts_101 : decode cX6_laysOuts 101 = .ok (.getfield 70, 3) := by decide +kernel
theorem dX6_laysOuts_104 : decode cX6_laysOuts 104 = .ok (.iload 4, 2) := by decide +kernel
theorem dX6_laysOuts_106 : decode cX6_laysOuts 106 = .ok (.iload 6, 2) := by decide +kernel
theorem dX6_laysOuts_108 : decode cX6_laysOuts 108 = .ok (.ifCond .eq 17, 3) := by decide +kernel
theorem dX6_laysOuts_111 : decode cX6_laysOuts 111 = .ok (.aload_n 0, 1) := by decide +kernel
theorem dX6_laysOuts_112 : decode cX6_laysOuts 112 = .ok (.getfield 55, 3) := by decide +kernel
theorem dX6_laysOuts_115 : decode cX6_laysOuts 115 = .ok (.iload_n 1, 1) := by decide +kernel
theorem dX6_laysOuts_116 : decode cX6_laysOuts 116 = .ok (.iload_n 2, 1) := by decide +kernel
theorem dX6_laysOuts_117 : decode cX6_laysOuts 117 = .ok (.iadd, 1) := by decide +kernel
theorem dX6_laysOuts_118 : decode cX6_laysOuts 118 = .ok (.iaload, 1) := by decide +kernel
theorem dX6_laysOuts_119 : decode cX6_laysOuts 119 = .ok (.invokestatic 247, 3) := by decide +kernel
theorem dX6_laysOuts_122 : decode cX6_laysOuts 122 = .ok (.goto 4, 3) := by decide +kernel
theorem dX6_laysOuts_125 : decode cX6_laysOuts 125 = .ok (.iconst (-1), 1) := by decide +kernel
theorem dX6_laysOuts_126 : decode cX6_laysOuts 126 = .ok (.iastore, 1) := by decide +kernel
theorem dX6_laysOuts_127 : decode cX6_laysOuts 127 = .ok (.iinc 4 1, 3) := by decide +kernel
theorem dX6_laysOuts_130 : decode cX6_laysOuts 130 = .ok (.goto (-127), 3) := by decide +kernel
theorem dX6_laysOuts_133 : decode cX6_laysOuts 133 = .ok (.return_, 1) := by decide +kernel
theorem dX6_bestOut_0 : decode cX6_bestOut 0 = .ok (.iconst (-1), 1) := by decide +kernel
theorem dX6_bestOut_1 : decode cX6_bestOut 1 = .ok (.istore_n 3, 1) := by decide +kernel
theorem dX6_bestOut_2 : decode cX6_bestOut 2 = .ok (.iconst 0, 1) := by decide +kernel
theorem dX6_bestOut_3 : decode cX6_bestOut 3 = .ok (.istore 4, 2) := by decide +kernel
theorem dX6_bestOut_5 : decode cX6_bestOut 5 = .ok (.iload 4, 2) := by decide +kernel
theorem dX6_bestOut_7 : decode cX6_bestOut 7 = .ok (.bipush 9, 2) := by decide +kernel
theorem dX6_bestOut_9 : decode cX6_bestOut 9 = .ok (.if_icmp .ge 75, 3) := by decide +kernel
theorem dX6_bestOut_12 : decode cX6_bestOut 12 = .ok (.aload_n 0, 1) := by decide +kernel
theorem dX6_bestOut_13 : decode cX6_bestOut 13 = .ok (.getfield 70, 3) := by decide +kernel
theorem dX6_bestOut_16 : decode cX6_bestOut 16 = .ok (.iload_n 1, 1) := by decide +kernel
theorem dX6_bestOut_17 : decode cX6_bestOut 17 = .ok (.iload 4, 2) := by decide +kernel
theorem dX6_bestOut_19 : decode cX6_bestOut 19 = .ok (.iadd, 1) := by decide +kernel
theorem dX6_bestOut_20 : decode cX6_bestOut 20 = .ok (.iaload, 1) := by decide +kernel
theorem dX6_bestOut_21 : decode cX6_bestOut 21 = .ok (.istore 5, 2) := by decide +kernel
theorem dX6_bestOut_23 : decode cX6_bestOut 23 = .ok (.iload_n 2, 1) := by decide +kernel
theorem dX6_bestOut_24 : decode cX6_bestOut 24 = .ok (.iconst 1, 1) := by decide +kernel
theorem dX6_bestOut_25 : decode cX6_bestOut 25 = .ok (.if_icmp .ne 17, 3) := by decide +kernel
theorem dX6_bestOut_28 : decode cX6_bestOut 28 = .ok (.iload 5, 2) := by decide +kernel
theorem dX6_bestOut_30 : decode cX6_bestOut 30 = .ok (.iload_n 3, 1) := by decide +kernel
theorem dX6_bestOut_31 : decode cX6_bestOut 31 = .ok (.if_icmp .ge 7, 3) := by decide +kernel
theorem dX6_bestOut_34 : decode cX6_bestOut 34 = .ok (.iconst 1, 1) := by decide +kernel
theorem dX6_bestOut_35 : decode cX6_bestOut 35 = .ok (.goto 18, 3) := by decide +kernel
theorem dX6_bestOut_38 : decode cX6_bestOut 38 = .ok (.iconst 0, 1) := by decide +kernel
theorem dX6_bestOut_39 : decode cX6_bestOut 39 = .ok (.goto 14, 3) := by decide +kernel
theorem dX6_bestOut_42 : decode cX6_bestOut 42 = .ok (.iload 5, 2) := by decide +kernel
theorem dX6_bestOut_44 : decode cX6_bestOut 44 = .ok (.iload_n 3, 1) := by decide +kernel
theorem dX6_bestOut_45 : decode cX6_bestOut 45 = .ok (.if_icmp .le 7, 3) := by decide +kernel
theorem dX6_bestOut_48 : decode cX6_bestOut 48 = .ok (.iconst 1, 1) := by decide +kernel
theorem dX6_bestOut_49 : decode cX6_bestOut 49 = .ok (.goto 4, 3) := by decide +kernel
theorem dX6_bestOut_52 : decode cX6_bestOut 52 = .ok (.iconst 0, 1) := by decide +kernel
theorem dX6_bestOut_53 : decode cX6_bestOut 53 = .ok (.istore 6, 2) := by decide +kernel
theorem dX6_bestOut_55 : decode cX6_bestOut 55 = .ok (.iload 5, 2) := by decide +kernel
theorem dX6_bestOut_57 : decode cX6_bestOut 57 = .ok (.iconst (-1), 1) := by decide +kernel
theorem dX6_bestOut_58 : decode cX6_bestOut 58 = .ok (.if_icmp .eq 18, 3) := by decide +kernel
theorem dX6_bestOut_61 : decode cX6_bestOut 61 = .ok (.iload_n 3, 1) := by decide +kernel
theorem dX6_bestOut_62 : decode cX6_bestOut 62 = .ok (.iconst (-1), 1) := by decide +kernel
theorem dX6_bestOut_63 : decode cX6_bestOut 63 = .ok (.if_icmp .eq 8, 3) := by decide +kernel
theorem dX6_bestOut_66 : decode cX6_bestOut 66 = .ok (.iload 6, 2) := by decide +kernel
theorem dX6_bestOut_68 : decode cX6_bestOut 68 = .ok (.ifCond .eq 8, 3) := by decide +kernel
theorem dX6_bestOut_71 : decode cX6_bestOut 71 = .ok (.iload 5, 2) := by decide +kernel
theorem dX6_bestOut_73 : decode cX6_bestOut 73 = .ok (.goto 4, 3) := by decide +kernel
theorem dX6_bestOut_76 : decode cX6_bestOut 76 = .ok (.iload_n 3, 1) := by decide +kernel
theorem dX6_bestOut_77 : decode cX6_bestOut 77 = .ok (.istore_n 3, 1) := by decide +kernel
theorem dX6_bestOut_78 : decode cX6_bestOut 78 = .ok (.iinc 4 1, 3) := by decide +kernel
theorem dX6_bestOut_81 : decode cX6_bestOut 81 = .ok (.goto (-76), 3) := by decide +kernel
theorem dX6_bestOut_84 : decode cX6_bestOut 84 = .ok (.iload_n 3, 1) := by decide +kernel
theorem dX6_bestOut_85 : decode cX6_bestOut 85 = .ok (.ireturn, 1) := by decide +kernel
theorem dX6_wordsOf_0 : decode cX6_wordsOf 0 = .ok (.aload_n 0, 1) := by decide +kernel
theorem dX6_wordsOf_1 : decode cX6_wordsOf 1 = .ok (.invokevirtual 124, 3) := by decide +kernel
theorem dX6_wordsOf_4 : decode cX6_wordsOf 4 = .ok (.aload_n 0, 1) := by decide +kernel
theorem dX6_wordsOf_5 : decode cX6_wordsOf 5 = .ok (.invokevirtual 188, 3) := by decide +kernel
theorem dX6_wordsOf_8 : decode cX6_wordsOf 8 = .ok (.iload_n 2, 1) := by decide +kernel
theorem dX6_wordsOf_9 : decode cX6_wordsOf 9 = .ok (.iconst 1, 1) := by decide +kernel
theorem dX6_wordsOf_10 : decode cX6_wordsOf 10 = .ok (.if_icmp .ne 8, 3) := by decide +kernel
theorem dX6_wordsOf_13 : decode cX6_wordsOf 13 = .ok (.bipush 9, 2) := by decide +kernel
theorem dX6_wordsOf_15 : decode cX6_wordsOf 15 = .ok (.goto 16, 3) := by decide +kernel
theorem dX6_wordsOf_18 : decode cX6_wordsOf 18 = .ok (.iload_n 2, 1) := by decide +kernel
theorem dX6_wordsOf_19 : decode cX6_wordsOf 19 = .ok (.iconst 2, 1) := by decide +kernel
theorem dX6_wordsOf_20 : decode cX6_wordsOf 20 = .ok (.if_icmp .ne 8, 3) := by decide +kernel
theorem dX6_wordsOf_23 : decode cX6_wordsOf 23 = .ok (.bipush 81, 2) := by decide +kernel
theorem dX6_wordsOf_25 : decode cX6_wordsOf 25 = .ok (.goto 6, 3) := by decide +kernel
theorem dX6_wordsOf_28 : decode cX6_wordsOf 28 = .ok (.sipush 729, 3) := by decide +kernel
theorem dX6_wordsOf_31 : decode cX6_wordsOf 31 = .ok (.istore 4, 2) := by decide +kernel
theorem dX6_wordsOf_33 : decode cX6_wordsOf 33 = .ok (.aload_n 0, 1) := by decide +kernel
theorem dX6_wordsOf_34 : decode cX6_wordsOf 34 = .ok (.iload_n 1, 1) := by decide +kernel
theorem dX6_wordsOf_35 : decode cX6_wordsOf 35 = .ok (.iload_n 2, 1) := by decide +kernel
theorem dX6_wordsOf_36 : decode cX6_wordsOf 36 = .ok (.iload 4, 2) := by decide +kernel
theorem dX6_wordsOf_38 : decode cX6_wordsOf 38 = .ok (.invokevirtual 250, 3) := by decide +kernel
theorem dX6_wordsOf_41 : decode cX6_wordsOf 41 = .ok (.iload_n 2, 1) := by decide +kernel
theorem dX6_wordsOf_42 : decode cX6_wordsOf 42 = .ok (.iconst 1, 1) := by decide +kernel
theorem dX6_wordsOf_43 : decode cX6_wordsOf 43 = .ok (.isub, 1) := by decide +kernel
theorem dX6_wordsOf_44 : decode cX6_wordsOf 44 = .ok (.istore 5, 2) := by decide +kernel
theorem dX6_wordsOf_46 : decode cX6_wordsOf 46 = .ok (.iload 5, 2) := by decide +kernel
theorem dX6_wordsOf_48 : decode cX6_wordsOf 48 = .ok (.ifCond .le 56, 3) := by decide +kernel
theorem dX6_wordsOf_51 : decode cX6_wordsOf 51 = .ok (.iload 4, 2) := by decide +kernel
theorem dX6_wordsOf_53 : decode cX6_wordsOf 53 = .ok (.bipush 9, 2) := by decide +kernel
theorem dX6_wordsOf_55 : decode cX6_wordsOf 55 = .ok (.idiv, 1) := by decide +kernel
theorem dX6_wordsOf_56 : decode cX6_wordsOf 56 = .ok (.istore 4, 2) := by decide +kernel
theorem dX6_wordsOf_58 : decode cX6_wordsOf 58 = .ok (.iconst 0, 1) := by decide +kernel
theorem dX6_wordsOf_59 : decode cX6_wordsOf 59 = .ok (.istore 6, 2) := by decide +kernel
theorem dX6_wordsOf_61 : decode cX6_wordsOf 61 = .ok (.iload 6, 2) := by decide +kernel
theorem dX6_wordsOf_63 : decode cX6_wordsOf 63 = .ok (.iload 4, 2) := by decide +kernel
theorem dX6_wordsOf_65 : decode cX6_wordsOf 65 = .ok (.if_icmp .ge 33, 3) := by decide +kernel
theorem dX6_wordsOf_68 : decode cX6_wordsOf 68 = .ok (.aload_n 0, 1) := by decide +kernel
theorem dX6_wordsOf_69 : decode cX6_wordsOf 69 = .ok (.getfield 70, 3) := by decide +kernel
theorem dX6_wordsOf_72 : decode cX6_wordsOf 72 = .ok (.iload 6, 2) := by decide +kernel
theorem dX6_wordsOf_74 : decode cX6_wordsOf 74 = .ok (.aload_n 0, 1) := by decide +kernel
theorem dX6_wordsOf_75 : decode cX6_wordsOf 75 = .ok (.bipush 9, 2) := by decide +kernel
theorem dX6_wordsOf_77 : decode cX6_wordsOf 77 = .ok (.iload 6, 2) := by decide +kernel
theorem dX6_wordsOf_79 : decode cX6_wordsOf 79 = .ok (.imul, 1) := by decide +kernel
theorem dX6_wordsOf_80 : decode cX6_wordsOf 80 = .ok (.aload_n 0, 1) := by decide +kernel
theorem dX6_wordsOf_81 : decode cX6_wordsOf 81 = .ok (.iload_n 1, 1) := by decide +kernel
theorem dX6_wordsOf_82 : decode cX6_wordsOf 82 = .ok (.iload 5, 2) := by decide +kernel
theorem dX6_wordsOf_84 : decode cX6_wordsOf 84 = .ok (.iadd, 1) := by decide +kernel
theorem dX6_wordsOf_85 : decode cX6_wordsOf 85 = .ok (.invokevirtual 173, 3) := by decide +kernel
theorem dX6_wordsOf_88 : decode cX6_wordsOf 88 = .ok (.invokevirtual 254, 3) := by decide +kernel
theorem dX6_wordsOf_91 : decode cX6_wordsOf 91 = .ok (.iastore, 1) := by decide +kernel
theorem dX6_wordsOf_92 : decode cX6_wordsOf 92 = .ok (.iinc 6 1, 3) := by decide +kernel
theorem dX6_wordsOf_95 : decode cX6_wordsOf 95 = .ok (.goto (-34), 3) := by decide +kernel
theorem dX6_wordsOf_98 : decode cX6_wordsOf 98 = .ok (.iinc 5 (-1), 3) := by decide +kernel
theorem dX6_wordsOf_101 : decode cX6_wordsOf 101 = .ok (.goto (-55), 3) := by decide +kernel
theorem dX6_wordsOf_104 : decode cX6_wordsOf 104 = .ok (.aload_n 0, 1) := by decide +kernel
theorem dX6_wordsOf_105 : decode cX6_wordsOf 105 = .ok (.iload_n 1, 1) := by decide +kernel
theorem dX6_wordsOf_106 : decode cX6_wordsOf 106 = .ok (.invokevirtual 173, 3) := by decide +kernel
theorem dX6_wordsOf_109 : decode cX6_wordsOf 109 = .ok (.istore 5, 2) := by decide +kernel
theorem dX6_wordsOf_111 : decode cX6_wordsOf 111 = .ok (.aload_n 0, 1) := by decide +kernel
theorem dX6_wordsOf_112 : decode cX6_wordsOf 112 = .ok (.iconst 0, 1) := by decide +kernel
theorem dX6_wordsOf_113 : decode cX6_wordsOf 113 = .ok (.iload 5, 2) := by decide +kernel
theorem dX6_wordsOf_115 : decode cX6_wordsOf 115 = .ok (.invokevirtual 254, 3) := by decide +kernel
theorem dX6_wordsOf_118 : decode cX6_wordsOf 118 = .ok (.istore 6, 2) := by decide +kernel
theorem dX6_wordsOf_120 : decode cX6_wordsOf 120 = .ok (.iconst 0, 1) := by decide +kernel
theorem dX6_wordsOf_121 : decode cX6_wordsOf 121 = .ok (.istore 7, 2) := by decide +kernel
theorem dX6_wordsOf_123 : decode cX6_wordsOf 123 = .ok (.aload_n 0, 1) := by decide +kernel
theorem dX6_wordsOf_124 : decode cX6_wordsOf 124 = .ok (.getfield 70, 3) := by decide +kernel
theorem dX6_wordsOf_127 : decode cX6_wordsOf 127 = .ok (.iload 7, 2) := by decide +kernel
theorem dX6_wordsOf_129 : decode cX6_wordsOf 129 = .ok (.iaload, 1) := by decide +kernel
theorem dX6_wordsOf_130 : decode cX6_wordsOf 130 = .ok (.iload 6, 2) := by decide +kernel
theorem dX6_wordsOf_132 : decode cX6_wordsOf 132 = .ok (.if_icmp .eq 9, 3) := by decide +kernel
theorem dX6_wordsOf_135 : decode cX6_wordsOf 135 = .ok (.iinc 7 1, 3) := by decide +kernel
theorem dX6_wordsOf_138 : decode cX6_wordsOf 138 = .ok (.goto (-15), 3) := by decide +kernel
theorem dX6_wordsOf_141 : decode cX6_wordsOf 141 = .ok (.iload_n 3, 1) := by decide +kernel
theorem dX6_wordsOf_142 : decode cX6_wordsOf 142 = .ok (.ifCond .ne 8, 3) := by decide +kernel
theorem dX6_wordsOf_145 : decode cX6_wordsOf 145 = .ok (.iload 6, 2) := by decide +kernel
theorem dX6_wordsOf_147 : decode cX6_wordsOf 147 = .ok (.goto 19, 3) := by decide +kernel
theorem dX6_wordsOf_150 : decode cX6_wordsOf 150 = .ok (.iload 5, 2) := by decide +kernel
theorem dX6_wordsOf_152 : decode cX6_wordsOf 152 = .ok (.iconst 0, 1) := by decide +kernel
theorem dX6_wordsOf_153 : decode cX6_wordsOf 153 = .ok (.iconst 1, 1) := by decide +kernel
theorem dX6_wordsOf_154 : decode cX6_wordsOf 154 = .ok (.invokestatic 106, 3) := by decide +kernel
theorem dX6_wordsOf_157 : decode cX6_wordsOf 157 = .ok (.ifCond .eq 8, 3) := by decide +kernel
theorem dX6_wordsOf_160 : decode cX6_wordsOf 160 = .ok (.iload 7, 2) := by decide +kernel
theorem dX6_wordsOf_162 : decode cX6_wordsOf 162 = .ok (.goto 4, 3) := by decide +kernel
theorem dX6_wordsOf_165 : decode cX6_wordsOf 165 = .ok (.iconst (-1), 1) := by decide +kernel
theorem dX6_wordsOf_166 : decode cX6_wordsOf 166 = .ok (.ireturn, 1) := by decide +kernel
theorem dX6_words_0 : decode cX6_words 0 = .ok (.iload_n 1, 1) := by decide +kernel
theorem dX6_words_1 : decode cX6_words 1 = .ok (.invokestatic 151, 3) := by decide +kernel
theorem dX6_words_4 : decode cX6_words 4 = .ok (.ifCond .eq 37, 3) := by decide +kernel
theorem dX6_words_7 : decode cX6_words 7 = .ok (.iload_n 2, 1) := by decide +kernel
theorem dX6_words_8 : decode cX6_words 8 = .ok (.iconst 1, 1) := by decide +kernel
theorem dX6_words_9 : decode cX6_words 9 = .ok (.iconst 3, 1) := by decide +kernel
theorem dX6_words_10 : decode cX6_words 10 = .ok (.invokestatic 106, 3) := by decide +kernel
theorem dX6_words_13 : decode cX6_words 13 = .ok (.ifCond .eq 28, 3) := by decide +kernel
theorem dX6_words_16 : decode cX6_words 16 = .ok (.iload_n 1, 1) := by decide +kernel
theorem dX6_words_17 : decode cX6_words 17 = .ok (.iload_n 2, 1) := by decide +kernel
theorem dX6_words_18 : decode cX6_words 18 = .ok (.iadd, 1) := by decide +kernel
theorem dX6_words_19 : decode cX6_words 19 = .ok (.bipush 39, 2) := by decide +kernel
theorem dX6_words_21 : decode cX6_words 21 = .ok (.if_icmp .gt 20, 3) := by decide +kernel
theorem dX6_words_24 : decode cX6_words 24 = .ok (.iload_n 3, 1) := by decide +kernel
theorem dX6_words_25 : decode cX6_words 25 = .ok (.invokestatic 145, 3) := by decide +kernel
theorem dX6_words_28 : decode cX6_words 28 = .ok (.ifCond .eq 13, 3) := by decide +kernel
theorem dX6_words_31 : decode cX6_words 31 = .ok (.aload_n 0, 1) := by decide +kernel
theorem dX6_words_32 : decode cX6_words 32 = .ok (.iload_n 1, 1) := by decide +kernel
theorem dX6_words_33 : decode cX6_words 33 = .ok (.iload_n 2, 1) := by decide +kernel
theorem dX6_words_34 : decode cX6_words 34 = .ok (.iload_n 3, 1) := by decide +kernel
theorem dX6_words_35 : decode cX6_words 35 = .ok (.invokevirtual 257, 3) := by decide +kernel
theorem dX6_words_38 : decode cX6_words 38 = .ok (.goto 5, 3) := by decide +kernel
theorem dX6_words_41 : decode cX6_words 41 = .ok (.bipush (-2), 2) := by decide +kernel
theorem dX6_words_43 : decode cX6_words 43 = .ok (.ireturn, 1) := by decide +kernel
theorem dX6_seen_0 : decode cX6_seen 0 = .ok (.iload_n 1, 1) := by decide +kernel
theorem dX6_seen_1 : decode cX6_seen 1 = .ok (.invokestatic 154, 3) := by decide +kernel
theorem dX6_seen_4 : decode cX6_seen 4 = .ok (.ifCond .eq 10, 3) := by decide +kernel
theorem dX6_seen_7 : decode cX6_seen 7 = .ok (.iload_n 2, 1) := by decide +kernel
theorem dX6_seen_8 : decode cX6_seen 8 = .ok (.invokestatic 145, 3) := by decide +kernel
theorem dX6_seen_11 : decode cX6_seen 11 = .ok (.ifCond .ne 6, 3) := by decide +kernel
theorem dX6_seen_14 : decode cX6_seen 14 = .ok (.bipush (-2), 2) := by decide +kernel
theorem dX6_seen_16 : decode cX6_seen 16 = .ok (.ireturn, 1) := by decide +kernel
theorem dX6_seen_17 : decode cX6_seen 17 = .ok (.aload_n 0, 1) := by decide +kernel
theorem dX6_seen_18 : decode cX6_seen 18 = .ok (.getfield 260, 3) := by decide +kernel
theorem dX6_seen_21 : decode cX6_seen 21 = .ok (.bipush 8, 2) := by decide +kernel
theorem dX6_seen_23 : decode cX6_seen 23 = .ok (.if_icmp .ne 6, 3) := by decide +kernel
theorem dX6_seen_26 : decode cX6_seen 26 = .ok (.bipush (-4), 2) := by decide +kernel
theorem dX6_seen_28 : decode cX6_seen 28 = .ok (.ireturn, 1) := by decide +kernel
theorem dX6_seen_29 : decode cX6_seen 29 = .ok (.aload_n 0, 1) := by decide +kernel
theorem dX6_seen_30 : decode cX6_seen 30 = .ok (.getfield 73, 3) := by decide +kernel
theorem dX6_seen_33 : decode cX6_seen 33 = .ok (.aload_n 0, 1) := by decide +kernel
theorem dX6_seen_34 : decode cX6_seen 34 = .ok (.getfield 260, 3) := by decide +kernel
theorem dX6_seen_37 : decode cX6_seen 37 = .ok (.iload_n 1, 1) := by decide +kernel
theorem dX6_seen_38 : decode cX6_seen 38 = .ok (.iastore, 1) := by decide +kernel
theorem dX6_seen_39 : decode cX6_seen 39 = .ok (.aload_n 0, 1) := by decide +kernel
theorem dX6_seen_40 : decode cX6_seen 40 = .ok (.getfield 76, 3) := by decide +kernel
theorem dX6_seen_43 : decode cX6_seen 43 = .ok (.aload_n 0, 1) := by decide +kernel
theorem dX6_seen_44 : decode cX6_seen 44 = .ok (.getfield 260, 3) := by decide +kernel
theorem dX6_seen_47 : decode cX6_seen 47 = .ok (.iload_n 2, 1) := by decide +kernel
theorem dX6_seen_48 : decode cX6_seen 48 = .ok (.iastore, 1) := by decide +kernel
theorem dX6_seen_49 : decode cX6_seen 49 = .ok (.aload_n 0, 1) := by decide +kernel
theorem dX6_seen_50 : decode cX6_seen 50 = .ok (.dup, 1) := by decide +kernel
theorem dX6_seen_51 : decode cX6_seen 51 = .ok (.getfield 260, 3) := by decide +kernel
theorem dX6_seen_54 : decode cX6_seen 54 = .ok (.iconst 1, 1) := by decide +kernel
theorem dX6_seen_55 : decode cX6_seen 55 = .ok (.iadd, 1) := by decide +kernel
theorem dX6_seen_56 : decode cX6_seen 56 = .ok (.putfield 260, 3) := by decide +kernel
theorem dX6_seen_59 : decode cX6_seen 59 = .ok (.aload_n 0, 1) := by decide +kernel
theorem dX6_seen_60 : decode cX6_seen 60 = .ok (.getfield 260, 3) := by decide +kernel
theorem dX6_seen_63 : decode cX6_seen 63 = .ok (.ireturn, 1) := by decide +kernel
theorem dX6_book_0 : decode cX6_book 0 = .ok (.iload_n 1, 1) := by decide +kernel
theorem dX6_book_1 : decode cX6_book 1 = .ok (.invokestatic 151, 3) := by decide +kernel
theorem dX6_book_4 : decode cX6_book 4 = .ok (.ifCond .eq 17, 3) := by decide +kernel
theorem dX6_book_7 : decode cX6_book 7 = .ok (.iload_n 2, 1) := by decide +kernel
theorem dX6_book_8 : decode cX6_book 8 = .ok (.invokestatic 154, 3) := by decide +kernel
theorem dX6_book_11 : decode cX6_book 11 = .ok (.ifCond .eq 10, 3) := by decide +kernel
theorem dX6_book_14 : decode cX6_book 14 = .ok (.iload_n 3, 1) := by decide +kernel
theorem dX6_book_15 : decode cX6_book 15 = .ok (.invokestatic 145, 3) := by decide +kernel
theorem dX6_book_18 : decode cX6_book 18 = .ok (.ifCond .ne 6, 3) := by decide +kernel
theorem dX6_book_21 : decode cX6_book 21 = .ok (.bipush (-2), 2) := by decide +kernel
theorem dX6_book_23 : decode cX6_book 23 = .ok (.ireturn, 1) := by decide +kernel
theorem dX6_book_24 : decode cX6_book 24 = .ok (.aload_n 0, 1) := by decide +kernel
theorem dX6_book_25 : decode cX6_book 25 = .ok (.getfield 263, 3) := by decide +kernel
theorem dX6_book_28 : decode cX6_book 28 = .ok (.bipush 8, 2) := by decide +kernel
theorem dX6_book_30 : decode cX6_book 30 = .ok (.if_icmp .ne 6, 3) := by decide +kernel
theorem dX6_book_33 : decode cX6_book 33 = .ok (.bipush (-4), 2) := by decide +kernel
theorem dX6_book_35 : decode cX6_book 35 = .ok (.ireturn, 1) := by decide +kernel
theorem dX6_book_36 : decode cX6_book 36 = .ok (.aload_n 0, 1) := by decide +kernel
theorem dX6_book_37 : decode cX6_book 37 = .ok (.getfield 79, 3) := by decide +kernel
theorem dX6_book_40 : decode cX6_book 40 = .ok (.aload_n 0, 1) := by decide +kernel
theorem dX6_book_41 : decode cX6_book 41 = .ok (.getfield 263, 3) := by decide +kernel
theorem dX6_book_44 : decode cX6_book 44 = .ok (.iload_n 1, 1) := by decide +kernel
theorem dX6_book_45 : decode cX6_book 45 = .ok (.iastore, 1) := by decide +kernel
theorem dX6_book_46 : decode cX6_book 46 = .ok (.aload_n 0, 1) := by decide +kernel
theorem dX6_book_47 : decode cX6_book 47 = .ok (.getfield 82, 3) := by decide +kernel
theorem dX6_book_50 : decode cX6_book 50 = .ok (.aload_n 0, 1) := by decide +kernel
theorem dX6_book_51 : decode cX6_book 51 = .ok (.getfield 263, 3) := by decide +kernel
theorem dX6_book_54 : decode cX6_book 54 = .ok (.iload_n 2, 1) := by decide +kernel
theorem dX6_book_55 : decode cX6_book 55 = .ok (.iastore, 1) := by decide +kernel
theorem dX6_book_56 : decode cX6_book 56 = .ok (.aload_n 0, 1) := by decide +kernel
theorem dX6_book_57 : decode cX6_book 57 = .ok (.getfield 85, 3) := by decide +kernel
theorem dX6_book_60 : decode cX6_book 60 = .ok (.aload_n 0, 1) := by decide +kernel
theorem dX6_book_61 : decode cX6_book 61 = .ok (.getfield 263, 3) := by decide +kernel
theorem dX6_book_64 : decode cX6_book 64 = .ok (.iload_n 3, 1) := by decide +kernel
theorem dX6_book_65 : decode cX6_book 65 = .ok (.iastore, 1) := by decide +kernel
theorem dX6_book_66 : decode cX6_book 66 = .ok (.aload_n 0, 1) := by decide +kernel
theorem dX6_book_67 : decode cX6_book 67 = .ok (.dup, 1) := by decide +kernel
theorem dX6_book_68 : decode cX6_book 68 = .ok (.getfield 263, 3) := by decide +kernel
theorem dX6_book_71 : decode cX6_book 71 = .ok (.iconst 1, 1) := by decide +kernel
theorem dX6_book_72 : decode cX6_book 72 = .ok (.iadd, 1) := by decide +kernel
theorem dX6_book_73 : decode cX6_book 73 = .ok (.putfield 263, 3) := by decide +kernel
theorem dX6_book_76 : decode cX6_book 76 = .ok (.aload_n 0, 1) := by decide +kernel
theorem dX6_book_77 : decode cX6_book 77 = .ok (.getfield 263, 3) := by decide +kernel
theorem dX6_book_80 : decode cX6_book 80 = .ok (.ireturn, 1) := by decide +kernel
theorem dX6_forget_0 : decode cX6_forget 0 = .ok (.iload_n 1, 1) := by decide +kernel
theorem dX6_forget_1 : decode cX6_forget 1 = .ok (.invokestatic 145, 3) := by decide +kernel
theorem dX6_forget_4 : decode cX6_forget 4 = .ok (.ifCond .ne 6, 3) := by decide +kernel
theorem dX6_forget_7 : decode cX6_forget 7 = .ok (.bipush (-2), 2) := by decide +kernel
theorem dX6_forget_9 : decode cX6_forget 9 = .ok (.ireturn, 1) := by decide +kernel
theorem dX6_forget_10 : decode cX6_forget 10 = .ok (.iload_n 1, 1) := by decide +kernel
theorem dX6_forget_11 : decode cX6_forget 11 = .ok (.ifCond .ne 10, 3) := by decide +kernel
theorem dX6_forget_14 : decode cX6_forget 14 = .ok (.aload_n 0, 1) := by decide +kernel
theorem dX6_forget_15 : decode cX6_forget 15 = .ok (.getfield 260, 3) := by decide +kernel
theorem dX6_forget_18 : decode cX6_forget 18 = .ok (.goto 7, 3) := by decide +kernel
theorem dX6_forget_21 : decode cX6_forget 21 = .ok (.aload_n 0, 1) := by decide +kernel
theorem dX6_forget_22 : decode cX6_forget 22 = .ok (.getfield 263, 3) := by decide +kernel
theorem dX6_forget_25 : decode cX6_forget 25 = .ok (.istore_n 2, 1) := by decide +kernel
theorem dX6_forget_26 : decode cX6_forget 26 = .ok (.aload_n 0, 1) := by decide +kernel
theorem dX6_forget_27 : decode cX6_forget 27 = .ok (.iload_n 1, 1) := by decide +kernel
theorem dX6_forget_28 : decode cX6_forget 28 = .ok (.ifCond .ne 7, 3) := by decide +kernel
theorem dX6_forget_31 : decode cX6_forget 31 = .ok (.iconst 0, 1) := by decide +kernel
theorem dX6_forget_32 : decode cX6_forget 32 = .ok (.goto 7, 3) := by decide +kernel
theorem dX6_forget_35 : decode cX6_forget 35 = .ok (.aload_n 0, 1) := by decide +kernel
theorem dX6_forget_36 : decode cX6_forget 36 = .ok (.getfield 260, 3) := by decide +kernel
theorem dX6_forget_39 : decode cX6_forget 39 = .ok (.putfield 260, 3) := by decide +kernel
theorem dX6_forget_42 : decode cX6_forget 42 = .ok (.aload_n 0, 1) := by decide +kernel
theorem dX6_forget_43 : decode cX6_forget 43 = .ok (.iload_n 1, 1) := by decide +kernel
theorem dX6_forget_44 : decode cX6_forget 44 = .ok (.iconst 1, 1) := by decide +kernel
theorem dX6_forget_45 : decode cX6_forget 45 = .ok (.if_icmp .ne 7, 3) := by decide +kernel
theorem dX6_forget_48 : decode cX6_forget 48 = .ok (.iconst 0, 1) := by decide +kernel
theorem dX6_forget_49 : decode cX6_forget 49 = .ok (.goto 7, 3) := by decide +kernel
theorem dX6_forget_52 : decode cX6_forget 52 = .ok (.aload_n 0, 1) := by decide +kernel
theorem dX6_forget_53 : decode cX6_forget 53 = .ok (.getfield 263, 3) := by decide +kernel
theorem dX6_forget_56 : decode cX6_forget 56 = .ok (.putfield 263, 3) := by decide +kernel
theorem dX6_forget_59 : decode cX6_forget 59 = .ok (.iload_n 2, 1) := by decide +kernel
theorem dX6_forget_60 : decode cX6_forget 60 = .ok (.ireturn, 1) := by decide +kernel
theorem dX6_isSo_0 : decode cX6_isSo 0 = .ok (.iload_n 2, 1) := by decide +kernel
theorem dX6_isSo_1 : decode cX6_isSo 1 = .ok (.aload_n 0, 1) := by decide +kernel
theorem dX6_isSo_2 : decode cX6_isSo 2 = .ok (.getfield 114, 3) := by decide +kernel
theorem dX6_isSo_5 : decode cX6_isSo 5 = .ok (.if_icmp .ge 21, 3) := by decide +kernel
theorem dX6_isSo_8 : decode cX6_isSo 8 = .ok (.aload_n 0, 1) := by decide +kernel
theorem dX6_isSo_9 : decode cX6_isSo 9 = .ok (.getfield 55, 3) := by decide +kernel
theorem dX6_isSo_12 : decode cX6_isSo 12 = .ok (.iload_n 1, 1) := by decide +kernel
theorem dX6_isSo_13 : decode cX6_isSo 13 = .ok (.iaload, 1) := by decide +kernel
theorem dX6_isSo_14 : decode cX6_isSo 14 = .ok (.iload_n 2, 1) := by decide +kernel
theorem dX6_isSo_15 : decode cX6_isSo 15 = .ok (.ishr, 1) := by decide +kernel
theorem dX6_isSo_16 : decode cX6_isSo 16 = .ok (.iconst 1, 1) := by decide +kernel
theorem dX6_isSo_17 : decode cX6_isSo 17 = .ok (.iand, 1) := by decide +kernel
theorem dX6_isSo_18 : decode cX6_isSo 18 = .ok (.iload_n 3, 1) := by decide +kernel
theorem dX6_isSo_19 : decode cX6_isSo 19 = .ok (.if_icmp .ne 7, 3) := by decide +kernel
theorem dX6_isSo_22 : decode cX6_isSo 22 = .ok (.iconst 1, 1) := by decide +kernel
theorem dX6_isSo_23 : decode cX6_isSo 23 = .ok (.goto 4, 3) := by decide +kernel
theorem dX6_isSo_26 : decode cX6_isSo 26 = .ok (.iconst 0, 1) := by decide +kernel
theorem dX6_isSo_27 : decode cX6_isSo 27 = .ok (.ireturn, 1) := by decide +kernel
theorem dX6_isWhen_0 : decode cX6_isWhen 0 = .ok (.iconst 1, 1) := by decide +kernel
theorem dX6_isWhen_1 : decode cX6_isWhen 1 = .ok (.istore_n 2, 1) := by decide +kernel
theorem dX6_isWhen_2 : decode cX6_isWhen 2 = .ok (.iconst 0, 1) := by decide +kernel
theorem dX6_isWhen_3 : decode cX6_isWhen 3 = .ok (.istore_n 3, 1) := by decide +kernel
theorem dX6_isWhen_4 : decode cX6_isWhen 4 = .ok (.iload_n 3, 1) := by decide +kernel
theorem dX6_isWhen_5 : decode cX6_isWhen 5 = .ok (.aload_n 0, 1) := by decide +kernel
theorem dX6_isWhen_6 : decode cX6_isWhen 6 = .ok (.getfield 260, 3) := by decide +kernel
theorem dX6_isWhen_9 : decode cX6_isWhen 9 = .ok (.if_icmp .ge 39, 3) := by decide +kernel
theorem dX6_isWhen_12 : decode cX6_isWhen 12 = .ok (.iload_n 2, 1) := by decide +kernel
theorem dX6_isWhen_13 : decode cX6_isWhen 13 = .ok (.ifCond .eq 27, 3) := by decide +kernel
theorem dX6_isWhen_16 : decode cX6_isWhen 16 = .ok (.aload_n 0, 1) := by decide +kernel
theorem dX6_isWhen_17 : decode cX6_isWhen 17 = .ok (.iload_n 1, 1) := by decide +kernel
theorem dX6_isWhen_18 : decode cX6_isWhen 18 = .ok (.aload_n 0, 1) := by decide +kernel
theorem dX6_isWhen_19 : decode cX6_isWhen 19 = .ok (.getfield 73, 3) := by decide +kernel
theorem dX6_isWhen_22 : decode cX6_isWhen 22 = .ok (.iload_n 3, 1) := by decide +kernel
theorem dX6_isWhen_23 : decode cX6_isWhen 23 = .ok (.iaload, 1) := by decide +kernel
theorem dX6_isWhen_24 : decode cX6_isWhen 24 = .ok (.aload_n 0, 1) := by decide +kernel
theorem dX6_isWhen_25 : decode cX6_isWhen 25 = .ok (.getfield 76, 3) := by decide +kernel
theorem dX6_isWhen_28 : decode cX6_isWhen 28 = .ok (.iload_n 3, 1) := by decide +kernel
theorem dX6_isWhen_29 : decode cX6_isWhen 29 = .ok (.iaload, 1) := by decide +kernel
theorem dX6_isWhen_30 : decode cX6_isWhen 30 = .ok (.invokevirtual 266, 3) := by decide +kernel
theorem dX6_isWhen_33 : decode cX6_isWhen 33 = .ok (.ifCond .eq 7, 3) := by decide +kernel
theorem dX6_isWhen_36 : decode cX6_isWhen 36 = .ok (.iconst 1, 1) := by decide +kernel
theorem dX6_isWhen_37 : decode cX6_isWhen 37 = .ok (.goto 4, 3) := by decide +kernel
theorem dX6_isWhen_40 : decode cX6_isWhen 40 = .ok (.iconst 0, 1) := by decide +kernel
theorem dX6_isWhen_41 : decode cX6_isWhen 41 = .ok (.istore_n 2, 1) := by decide +kernel
theorem dX6_isWhen_42 : decode cX6_isWhen 42 = .ok (.iinc 3 1, 3) := by decide +kernel
theorem dX6_isWhen_45 : decode cX6_isWhen 45 = .ok (.goto (-41), 3) := by decide +kernel
theorem dX6_isWhen_48 : decode cX6_isWhen 48 = .ok (.iload_n 2, 1) := by decide +kernel
theorem dX6_isWhen_49 : decode cX6_isWhen 49 = .ok (.ireturn, 1) := by decide +kernel
theorem dX6_whenOf_0 : decode cX6_whenOf 0 = .ok (.aload_n 0, 1) := by decide +kernel
theorem dX6_whenOf_1 : decode cX6_whenOf 1 = .ok (.invokevirtual 194, 3) := by decide +kernel
theorem dX6_whenOf_4 : decode cX6_whenOf 4 = .ok (.iconst 0, 1) := by decide +kernel
theorem dX6_whenOf_5 : decode cX6_whenOf 5 = .ok (.istore_n 2, 1) := by decide +kernel
theorem dX6_whenOf_6 : decode cX6_whenOf 6 = .ok (.iconst (-1), 1) := by decide +kernel
theorem dX6_whenOf_7 : decode cX6_whenOf 7 = .ok (.istore_n 3, 1) := by decide +kernel
theorem dX6_whenOf_8 : decode cX6_whenOf 8 = .ok (.iconst 0, 1) := by decide +kernel
theorem dX6_whenOf_9 : decode cX6_whenOf 9 = .ok (.istore 4, 2) := by decide +kernel
theorem dX6_whenOf_11 : decode cX6_whenOf 11 = .ok (.iload 4, 2) := by decide +kernel
theorem dX6_whenOf_13 : decode cX6_whenOf 13 = .ok (.bipush 40, 2) := by decide +kernel
theorem dX6_whenOf_15 : decode cX6_whenOf 15 = .ok (.if_icmp .ge 47, 3) := by decide +kernel
theorem dX6_whenOf_18 : decode cX6_whenOf 18 = .ok (.aload_n 0, 1) := by decide +kernel
theorem dX6_whenOf_19 : decode cX6_whenOf 19 = .ok (.iload 4, 2) := by decide +kernel
theorem dX6_whenOf_21 : decode cX6_whenOf 21 = .ok (.invokevirtual 269, 3) := by decide +kernel
theorem dX6_whenOf_24 : decode cX6_whenOf 24 = .ok (.istore 5, 2) := by decide +kernel
theorem dX6_whenOf_26 : decode cX6_whenOf 26 = .ok (.iload 5, 2) := by decide +kernel
theorem dX6_whenOf_28 : decode cX6_whenOf 28 = .ok (.ifCond .eq 13, 3) := by decide +kernel
theorem dX6_whenOf_31 : decode cX6_whenOf 31 = .ok (.iload_n 2, 1) := by decide +kernel
theorem dX6_whenOf_32 : decode cX6_whenOf 32 = .ok (.iload_n 1, 1) := by decide +kernel
theorem dX6_whenOf_33 : decode cX6_whenOf 33 = .ok (.if_icmp .ne 8, 3) := by decide +kernel
theorem dX6_whenOf_36 : decode cX6_whenOf 36 = .ok (.iload 4, 2) := by decide +kernel
theorem dX6_whenOf_38 : decode cX6_whenOf 38 = .ok (.goto 4, 3) := by decide +kernel
theorem dX6_whenOf_41 : decode cX6_whenOf 41 = .ok (.iload_n 3, 1) := by decide +kernel
theorem dX6_whenOf_42 : decode cX6_whenOf 42 = .ok (.istore_n 3, 1) := by decide +kernel
theorem dX6_whenOf_43 : decode cX6_whenOf 43 = .ok (.iload_n 2, 1) := by decide +kernel
theorem dX6_whenOf_44 : decode cX6_whenOf 44 = .ok (.iload 5, 2) := by decide +kernel
theorem dX6_whenOf_46 : decode cX6_whenOf 46 = .ok (.ifCond .eq 7, 3) := by decide +kernel
theorem dX6_whenOf_49 : decode cX6_whenOf 49 = .ok (.iconst 1, 1) := by decide +kernel
theorem dX6_whenOf_50 : decode cX6_whenOf 50 = .ok (.goto 4, 3) := by decide +kernel
theorem dX6_whenOf_53 : decode cX6_whenOf 53 = .ok (.iconst 0, 1) := by decide +kernel
theorem dX6_whenOf_54 : decode cX6_whenOf 54 = .ok (.iadd, 1) := by decide +kernel
theorem dX6_whenOf_55 : decode cX6_whenOf 55 = .ok (.istore_n 2, 1) := by decide +kernel
theorem dX6_whenOf_56 : decode cX6_whenOf 56 = .ok (.iinc 4 1, 3) := by decide +kernel
theorem dX6_whenOf_59 : decode cX6_whenOf 59 = .ok (.goto (-48), 3) := by decide +kernel
theorem dX6_whenOf_62 : decode cX6_whenOf 62 = .ok (.iload_n 1, 1) := by decide +kernel
theorem dX6_whenOf_63 : decode cX6_whenOf 63 = .ok (.iconst (-1), 1) := by decide +kernel
theorem dX6_whenOf_64 : decode cX6_whenOf 64 = .ok (.if_icmp .ne 7, 3) := by decide +kernel
theorem dX6_whenOf_67 : decode cX6_whenOf 67 = .ok (.iload_n 2, 1) := by decide +kernel
theorem dX6_whenOf_68 : decode cX6_whenOf 68 = .ok (.goto 4, 3) := by decide +kernel
theorem dX6_whenOf_71 : decode cX6_whenOf 71 = .ok (.iload_n 3, 1) := by decide +kernel
theorem dX6_whenOf_72 : decode cX6_whenOf 72 = .ok (.ireturn, 1) := by decide +kernel
theorem dX6_when_0 : decode cX6_when 0 = .ok (.iload_n 1, 1) := by decide +kernel
theorem dX6_when_1 : decode cX6_when 1 = .ok (.iconst (-1), 1) := by decide +kernel
theorem dX6_when_2 : decode cX6_when 2 = .ok (.bipush 39, 2) := by decide +kernel
theorem dX6_when_4 : decode cX6_when 4 = .ok (.invokestatic 106, 3) := by decide +kernel
theorem dX6_when_7 : decode cX6_when 7 = .ok (.ifCond .eq 11, 3) := by decide +kernel
theorem dX6_when_10 : decode cX6_when 10 = .ok (.aload_n 0, 1) := by decide +kernel
theorem dX6_when_11 : decode cX6_when 11 = .ok (.iload_n 1, 1) := by decide +kernel
theorem dX6_when_12 : decode cX6_when 12 = .ok (.invokevirtual 272, 3) := by decide +kernel
theorem dX6_when_15 : decode cX6_when 15 = .ok (.goto 5, 3) := by decide +kernel
theorem dX6_when_18 : decode cX6_when 18 = .ok (.bipush (-2), 2) := by decide +kernel
theorem dX6_when_20 : decode cX6_when 20 = .ok (.ireturn, 1) := by decide +kernel
theorem dX6_askNow_0 : decode cX6_askNow 0 = .ok (.aload_n 0, 1) := by decide +kernel
theorem dX6_askNow_1 : decode cX6_askNow 1 = .ok (.invokevirtual 194, 3) := by decide +kernel
theorem dX6_askNow_4 : decode cX6_askNow 4 = .ok (.iconst (-1), 1) := by decide +kernel
theorem dX6_askNow_5 : decode cX6_askNow 5 = .ok (.istore_n 1, 1) := by decide +kernel
theorem dX6_askNow_6 : decode cX6_askNow 6 = .ok (.iconst 0, 1) := by decide +kernel
theorem dX6_askNow_7 : decode cX6_askNow 7 = .ok (.istore_n 2, 1) := by decide +kernel
theorem dX6_askNow_8 : decode cX6_askNow 8 = .ok (.iconst 0, 1) := by decide +kernel
theorem dX6_askNow_9 : decode cX6_askNow 9 = .ok (.istore_n 3, 1) := by decide +kernel
theorem dX6_askNow_10 : decode cX6_askNow 10 = .ok (.iload_n 3, 1) := by decide +kernel
theorem dX6_askNow_11 : decode cX6_askNow 11 = .ok (.aload_n 0, 1) := by decide +kernel
theorem dX6_askNow_12 : decode cX6_askNow 12 = .ok (.getfield 114, 3) := by decide +kernel
theorem dX6_askNow_15 : decode cX6_askNow 15 = .ok (.if_icmp .ge 154, 3) := by decide +kernel
theorem dX6_askNow_18 : decode cX6_askNow 18 = .ok (.iconst 0, 1) := by decide +kernel
theorem dX6_askNow_19 : decode cX6_askNow 19 = .ok (.istore 4, 2) := by decide +kernel
theorem dX6_askNow_21 : decode cX6_askNow 21 = .ok (.iconst 0, 1) := by decide +kernel
theorem dX6_askNow_22 : decode cX6_askNow 22 = .ok (.istore 5, 2) := by decide +kernel
theorem dX6_askNow_24 : decode cX6_askNow 24 = .ok (.iconst 0, 1) := by decide +kernel
theorem dX6_askNow_25 : decode cX6_askNow 25 = .ok (.istore 6, 2) := by decide +kernel
theorem dX6_askNow_27 : decode cX6_askNow 27 = .ok (.iload 6, 2) := by decide +kernel
theorem dX6_askNow_29 : decode cX6_askNow 29 = .ok (.bipush 40, 2) := by decide +kernel
theorem dX6_askNow_31 : decode cX6_askNow 31 = .ok (.if_icmp .ge 75, 3) := by decide +kernel
theorem dX6_askNow_34 : decode cX6_askNow 34 = .ok (.iload 4, 2) := by decide +kernel
theorem dX6_askNow_36 : decode cX6_askNow 36 = .ok (.aload_n 0, 1) := by decide +kernel
theorem dX6_askNow_37 : decode cX6_askNow 37 = .ok (.iload 6, 2) := by decide +kernel
theorem dX6_askNow_39 : decode cX6_askNow 39 = .ok (.invokevirtual 269, 3) := by decide +kernel
theorem dX6_askNow_42 : decode cX6_askNow 42 = .ok (.ifCond .eq 21, 3) := by decide +kernel
theorem dX6_askNow_45 : decode cX6_askNow 45 = .ok (.aload_n 0, 1) := by decide +kernel
theorem dX6_askNow_46 : decode cX6_askNow 46 = .ok (.getfield 55, 3) := by decide +kernel
theorem dX6_askNow_49 : decode cX6_askNow 49 = .ok (.iload 6, 2) := by decide +kernel
theorem dX6_askNow_51 : decode cX6_askNow 51 = .ok (.iaload, 1) := by decide +kernel
theorem dX6_askNow_52 : decode cX6_askNow 52 = .ok (.iload_n 3, 1) := by decide +kernel
theorem dX6_askNow_53 : decode cX6_askNow 53 = .ok (.invokestatic 127, 3) := by decide +kernel
theorem dX6_askNow_56 : decode cX6_askNow 56 = .ok (.ifCond .eq 7, 3) := by decide +kernel
theorem dX6_askNow_59 : decode cX6_askNow 59 = .ok (.iconst 1, 1) := by decide +kernel
theorem dX6_askNow_60 : decode cX6_askNow 60 = .ok (.goto 4, 3) := by decide +kernel
theorem dX6_askNow_63 : decode cX6_askNow 63 = .ok (.iconst 0, 1) := by decide +kernel
theorem dX6_askNow_64 : decode cX6_askNow 64 = .ok (.iadd, 1) := by decide +kernel
theorem dX6_askNow_65 : decode cX6_askNow 65 = .ok (.istore 4, 2) := by decide +kernel
theorem dX6_askNow_67 : decode cX6_askNow 67 = .ok (.iload 5, 2) := by decide +kernel
theorem dX6_askNow_69 : decode cX6_askNow 69 = .ok (.aload_n 0, 1) := by decide +kernel
theorem dX6_askNow_70 : decode cX6_askNow 70 = .ok (.iload 6, 2) := by decide +kernel
theorem dX6_askNow_72 : decode cX6_askNow 72 = .ok (.invokevirtual 269, 3) := by decide +kernel
theorem dX6_askNow_75 : decode cX6_askNow 75 = .ok (.ifCond .eq 21, 3) := by decide +kernel
theorem dX6_askNow_78 : decode cX6_askNow 78 = .ok (.aload_n 0, 1) := by decide +kernel
theorem dX6_askNow_79 : decode cX6_askNow 79 = .ok (.getfield 55, 3) := by decide +kernel
theorem dX6_askNow_82 : decode cX6_askNow 82 = .ok (.iload 6, 2) := by decide +kernel
theorem dX6_askNow_84 : decode cX6_askNow 84 = .ok (.iaload, 1) := by decide +kernel
theorem dX6_askNow_85 : decode cX6_askNow 85 = .ok (.iload_n 3, 1) := by decide +kernel
theorem dX6_askNow_86 : decode cX6_askNow 86 = .ok (.invokestatic 127, 3) := by decide +kernel
theorem dX6_askNow_89 : decode cX6_askNow 89 = .ok (.ifCond .ne 7, 3) := by decide +kernel
theorem dX6_askNow_92 : decode cX6_askNow 92 = .ok (.iconst 1, 1) := by decide +kernel
theorem dX6_askNow_93 : decode cX6_askNow 93 = .ok (.goto 4, 3) := by decide +kernel
theorem dX6_askNow_96 : decode cX6_askNow 96 = .ok (.iconst 0, 1) := by decide +kernel
theorem dX6_askNow_97 : decode cX6_askNow 97 = .ok (.iadd, 1) := by decide +kernel
theorem dX6_askNow_98 : decode cX6_askNow 98 = .ok (.istore 5, 2) := by decide +kernel
theorem dX6_askNow_100 : decode cX6_askNow 100 = .ok (.iinc 6 1, 3) := by decide +kernel
theorem dX6_askNow_103 : decode cX6_askNow 103 = .ok (.goto (-76), 3) := by decide +kernel
theorem dX6_askNow_106 : decode cX6_askNow 106 = .ok (.iload 4, 2) := by decide +kernel
theorem dX6_askNow_108 : decode cX6_askNow 108 = .ok (.iload 5, 2) := by decide +kernel
theorem dX6_askNow_110 : decode cX6_askNow 110 = .ok (.if_icmp .le 8, 3) := by decide +kernel
theorem dX6_askNow_113 : decode cX6_askNow 113 = .ok (.iload 4, 2) := by decide +kernel
theorem dX6_askNow_115 : decode cX6_askNow 115 = .ok (.goto 5, 3) := by decide +kernel
theorem dX6_askNow_118 : decode cX6_askNow 118 = .ok (.iload 5, 2) := by decide +kernel
theorem dX6_askNow_120 : decode cX6_askNow 120 = .ok (.istore 6, 2) := by decide +kernel
theorem dX6_askNow_122 : decode cX6_askNow 122 = .ok (.iload_n 1, 1) := by decide +kernel
theorem dX6_askNow_123 : decode cX6_askNow 123 = .ok (.iconst (-1), 1) := by decide +kernel
theorem dX6_askNow_124 : decode cX6_askNow 124 = .ok (.if_icmp .eq 9, 3) := by decide +kernel
theorem dX6_askNow_127 : decode cX6_askNow 127 = .ok (.iload 6, 2) := by decide +kernel
theorem dX6_askNow_129 : decode cX6_askNow 129 = .ok (.iload_n 2, 1) := by decide +kernel
theorem dX6_askNow_130 : decode cX6_askNow 130 = .ok (.if_icmp .ge 7, 3) := by decide +kernel
theorem dX6_askNow_133 : decode cX6_askNow 133 = .ok (.iconst 1, 1) := by decide +kernel
theorem dX6_askNow_134 : decode cX6_askNow 134 = .ok (.goto 4, 3) := by decide +kernel
theorem dX6_askNow_137 : decode cX6_askNow 137 = .ok (.iconst 0, 1) := by decide +kernel
theorem dX6_askNow_138 : decode cX6_askNow 138 = .ok (.istore 7, 2) := by decide +kernel
theorem dX6_askNow_140 : decode cX6_askNow 140 = .ok (.iload 7, 2) := by decide +kernel
theorem dX6_askNow_142 : decode cX6_askNow 142 = .ok (.ifCond .eq 7, 3) := by decide +kernel
theorem dX6_askNow_145 : decode cX6_askNow 145 = .ok (.iload_n 3, 1) := by decide +kernel
theorem dX6_askNow_146 : decode cX6_askNow 146 = .ok (.goto 4, 3) := by decide +kernel
theorem dX6_askNow_149 : decode cX6_askNow 149 = .ok (.iload_n 1, 1) := by decide +kernel
theorem dX6_askNow_150 : decode cX6_askNow 150 = .ok (.istore_n 1, 1) := by decide +kernel
theorem dX6_askNow_151 : decode cX6_askNow 151 = .ok (.iload 7, 2) := by decide +kernel
theorem dX6_askNow_153 : decode cX6_askNow 153 = .ok (.ifCond .eq 8, 3) := by decide +kernel
theorem dX6_askNow_156 : decode cX6_askNow 156 = .ok (.iload 6, 2) := by decide +kernel
theorem dX6_askNow_158 : decode cX6_askNow 158 = .ok (.goto 4, 3) := by decide +kernel
theorem dX6_askNow_161 : decode cX6_askNow 161 = .ok (.iload_n 2, 1) := by decide +kernel
theorem dX6_askNow_162 : decode cX6_askNow 162 = .ok (.istore_n 2, 1) := by decide +kernel
theorem dX6_askNow_163 : decode cX6_askNow 163 = .ok (.iinc 3 1, 3) := by decide +kernel
theorem dX6_askNow_166 : decode cX6_askNow 166 = .ok (.goto (-156), 3) := by decide +kernel
theorem dX6_askNow_169 : decode cX6_askNow 169 = .ok (.iload_n 1, 1) := by decide +kernel
theorem dX6_askNow_170 : decode cX6_askNow 170 = .ok (.ireturn, 1) := by decide +kernel
theorem dX6_ask_0 : decode cX6_ask 0 = .ok (.aload_n 0, 1) := by decide +kernel
theorem dX6_ask_1 : decode cX6_ask 1 = .ok (.invokevirtual 275, 3) := by decide +kernel
theorem dX6_ask_4 : decode cX6_ask 4 = .ok (.ireturn, 1) := by decide +kernel
theorem dX6_forgedNow_0 : decode cX6_forgedNow 0 = .ok (.aload_n 0, 1) := by decide +kernel
theorem dX6_forgedNow_1 : decode cX6_forgedNow 1 = .ok (.invokevirtual 124, 3) := by decide +kernel
theorem dX6_forgedNow_4 : decode cX6_forgedNow 4 = .ok (.aload_n 0, 1) := by decide +kernel
theorem dX6_forgedNow_5 : decode cX6_forgedNow 5 = .ok (.invokevirtual 188, 3) := by decide +kernel
theorem dX6_forgedNow_8 : decode cX6_forgedNow 8 = .ok (.iconst 0, 1) := by decide +kernel
theorem dX6_forgedNow_9 : decode cX6_forgedNow 9 = .ok (.istore_n 1, 1) := by decide +kernel
theorem dX6_forgedNow_10 : decode cX6_forgedNow 10 = .ok (.iconst 0, 1) := by decide +kernel
theorem dX6_forgedNow_11 : decode cX6_forgedNow 11 = .ok (.istore_n 2, 1) := by decide +kernel
theorem dX6_forgedNow_12 : decode cX6_forgedNow 12 = .ok (.iload_n 2, 1) := by decide +kernel
theorem dX6_forgedNow_13 : decode cX6_forgedNow 13 = .ok (.aload_n 0, 1) := by decide +kernel
theorem dX6_forgedNow_14 : decode cX6_forgedNow 14 = .ok (.getfield 16, 3) := by decide +kernel
theorem dX6_forgedNow_17 : decode cX6_forgedNow 17 = .ok (.iconst 2, 1) := by decide +kernel
theorem dX6_forgedNow_18 : decode cX6_forgedNow 18 = .ok (.iaload, 1) := by decide +kernel
theorem dX6_forgedNow_19 : decode cX6_forgedNow 19 = .ok (.if_icmp .ge 90, 3) := by decide +kernel
theorem dX6_forgedNow_22 : decode cX6_forgedNow 22 = .ok (.aload_n 0, 1) := by decide +kernel
theorem dX6_forgedNow_23 : decode cX6_forgedNow 23 = .ok (.iload_n 2, 1) := by decide +kernel
theorem dX6_forgedNow_24 : decode cX6_forgedNow 24 = .ok (.putfield 176, 3) := by decide +kernel
theorem dX6_forgedNow_27 : decode cX6_forgedNow 27 = .ok (.aload_n 0, 1) := by decide +kernel
theorem dX6_forgedNow_28 : decode cX6_forgedNow 28 = .ok (.invokevirtual 191, 3) := by decide +kernel
theorem dX6_forgedNow_31 : decode cX6_forgedNow 31 = .ok (.iconst 1, 1) := by decide +kernel
theorem dX6_forgedNow_32 : decode cX6_forgedNow 32 = .ok (.istore_n 3, 1) := by decide +kernel
theorem dX6_forgedNow_33 : decode cX6_forgedNow 33 = .ok (.iconst 0, 1) := by decide +kernel
theorem dX6_forgedNow_34 : decode cX6_forgedNow 34 = .ok (.istore 4, 2) := by decide +kernel
theorem dX6_forgedNow_36 : decode cX6_forgedNow 36 = .ok (.iload 4, 2) := by decide +kernel
theorem dX6_forgedNow_38 : decode cX6_forgedNow 38 = .ok (.aload_n 0, 1) := by decide +kernel
theorem dX6_forgedNow_39 : decode cX6_forgedNow 39 = .ok (.getfield 263, 3) := by decide +kernel
theorem dX6_forgedNow_42 : decode cX6_forgedNow 42 = .ok (.if_icmp .ge 47, 3) := by decide +kernel
theorem dX6_forgedNow_45 : decode cX6_forgedNow 45 = .ok (.iload_n 3, 1) := by decide +kernel
theorem dX6_forgedNow_46 : decode cX6_forgedNow 46 = .ok (.ifCond .eq 35, 3) := by decide +kernel
theorem dX6_forgedNow_49 : decode cX6_forgedNow 49 = .ok (.aload_n 0, 1) := by decide +kernel
theorem dX6_forgedNow_50 : decode cX6_forgedNow 50 = .ok (.aload_n 0, 1) := by decide +kernel
theorem dX6_forgedNow_51 : decode cX6_forgedNow 51 = .ok (.getfield 79, 3) := by decide +kernel
theorem dX6_forgedNow_54 : decode cX6_forgedNow 54 = .ok (.iload 4, 2) := by decide +kernel
theorem dX6_forgedNow_56 : decode cX6_forgedNow 56 = .ok (.iaload, 1) := by decide +kernel
theorem dX6_forgedNow_57 : decode cX6_forgedNow 57 = .ok (.aload_n 0, 1) := by decide +kernel
theorem dX6_forgedNow_58 : decode cX6_forgedNow 58 = .ok (.getfield 82, 3) := by decide +kernel
theorem dX6_forgedNow_61 : decode cX6_forgedNow 61 = .ok (.iload 4, 2) := by decide +kernel
theorem dX6_forgedNow_63 : decode cX6_forgedNow 63 = .ok (.iaload, 1) := by decide +kernel
theorem dX6_forgedNow_64 : decode cX6_forgedNow 64 = .ok (.aload_n 0, 1) := by decide +kernel
theorem dX6_forgedNow_65 : decode cX6_forgedNow 65 = .ok (.getfield 85, 3) := by decide +kernel
theorem dX6_forgedNow_68 : decode cX6_forgedNow 68 = .ok (.iload 4, 2) := by decide +kernel
theorem dX6_forgedNow_70 : decode cX6_forgedNow 70 = .ok (.iaload, 1) := by decide +kernel
theorem dX6_forgedNow_71 : decode cX6_forgedNow 71 = .ok (.invokevirtual 266, 3) := by decide +kernel
theorem dX6_forgedNow_74 : decode cX6_forgedNow 74 = .ok (.ifCond .eq 7, 3) := by decide +kernel
theorem dX6_forgedNow_77 : decode cX6_forgedNow 77 = .ok (.iconst 1, 1) := by decide +kernel
theorem dX6_forgedNow_78 : decode cX6_forgedNow 78 = .ok (.goto 4, 3) := by decide +kernel
theorem dX6_forgedNow_81 : decode cX6_forgedNow 81 = .ok (.iconst 0, 1) := by decide +kernel
theorem dX6_forgedNow_82 : decode cX6_forgedNow 82 = .ok (.istore_n 3, 1) := by decide +kernel
theorem dX6_forgedNow_83 : decode cX6_forgedNow 83 = .ok (.iinc 4 1, 3) := by decide +kernel
theorem dX6_forgedNow_86 : decode cX6_forgedNow 86 = .ok (.goto (-50), 3) := by decide +kernel
theorem dX6_forgedNow_89 : decode cX6_forgedNow 89 = .ok (.iload_n 1, 1) := by decide +kernel
theorem dX6_forgedNow_90 : decode cX6_forgedNow 90 = .ok (.iload_n 3, 1) := by decide +kernel
theorem dX6_forgedNow_91 : decode cX6_forgedNow 91 = .ok (.ifCond .eq 9, 3) := by decide +kernel
theorem dX6_forgedNow_94 : decode cX6_forgedNow 94 = .ok (.iconst 1, 1) := by decide +kernel
theorem dX6_forgedNow_95 : decode cX6_forgedNow 95 = .ok (.iload_n 2, 1) := by decide +kernel
theorem dX6_forgedNow_96 : decode cX6_forgedNow 96 = .ok (.ishl, 1) := by decide +kernel
theorem dX6_forgedNow_97 : decode cX6_forgedNow 97 = .ok (.goto 4, 3) := by decide +kernel
theorem dX6_forgedNow_100 : decode cX6_forgedNow 100 = .ok (.iconst 0, 1) := by decide +kernel
theorem dX6_forgedNow_101 : decode cX6_forgedNow 101 = .ok (.ior, 1) := by decide +kernel
theorem dX6_forgedNow_102 : decode cX6_forgedNow 102 = .ok (.istore_n 1, 1) := by decide +kernel
theorem dX6_forgedNow_103 : decode cX6_forgedNow 103 = .ok (.iinc 2 1, 3) := by decide +kernel
theorem dX6_forgedNow_106 : decode cX6_forgedNow 106 = .ok (.goto (-94), 3) := by decide +kernel
theorem dX6_forgedNow_109 : decode cX6_forgedNow 109 = .ok (.iload_n 1, 1) := by decide +kernel
theorem dX6_forgedNow_110 : decode cX6_forgedNow 110 = .ok (.ireturn, 1) := by decide +kernel
theorem dX6_forged_0 : decode cX6_forged 0 = .ok (.aload_n 0, 1) := by decide +kernel
theorem dX6_forged_1 : decode cX6_forged 1 = .ok (.invokevirtual 278, 3) := by decide +kernel
theorem dX6_forged_4 : decode cX6_forged 4 = .ok (.ireturn, 1) := by decide +kernel
theorem dX6_chanceOn_0 : decode cX6_chanceOn 0 = .ok (.aload_n 0, 1) := by decide +kernel
theorem dX6_chanceOn_1 : decode cX6_chanceOn 1 = .ok (.getfield 52, 3) := by decide +kernel
theorem dX6_chanceOn_4 : decode cX6_chanceOn 4 = .ok (.iload_n 2, 1) := by decide +kernel
theorem dX6_chanceOn_5 : decode cX6_chanceOn 5 = .ok (.iaload, 1) := by decide +kernel
theorem dX6_chanceOn_6 : decode cX6_chanceOn 6 = .ok (.iload_n 3, 1) := by decide +kernel
theorem dX6_chanceOn_7 : decode cX6_chanceOn 7 = .ok (.ishr, 1) := by decide +kernel
theorem dX6_chanceOn_8 : decode cX6_chanceOn 8 = .ok (.iconst 1, 1) := by decide +kernel
theorem dX6_chanceOn_9 : decode cX6_chanceOn 9 = .ok (.iand, 1) := by decide +kernel
theorem dX6_chanceOn_10 : decode cX6_chanceOn 10 = .ok (.istore 4, 2) := by decide +kernel
theorem dX6_chanceOn_12 : decode cX6_chanceOn 12 = .ok (.aload_n 0, 1) := by decide +kernel
theorem dX6_chanceOn_13 : decode cX6_chanceOn 13 = .ok (.getfield 52, 3) := by decide +kernel
theorem dX6_chanceOn_16 : decode cX6_chanceOn 16 = .ok (.bipush 40, 2) := by decide +kernel
theorem dX6_chanceOn_18 : decode cX6_chanceOn 18 = .ok (.iload_n 2, 1) := by decide +kernel
theorem dX6_chanceOn_19 : decode cX6_chanceOn 19 = .ok (.iadd, 1) := by decide +kernel
theorem dX6_chanceOn_20 : decode cX6_chanceOn 20 = .ok (.iaload, 1) := by decide +kernel
theorem dX6_chanceOn_21 : decode cX6_chanceOn 21 = .ok (.iload_n 3, 1) := by decide +kernel
theorem dX6_chanceOn_22 : decode cX6_chanceOn 22 = .ok (.ishr, 1) := by decide +kernel
theorem dX6_chanceOn_23 : decode cX6_chanceOn 23 = .ok (.iconst 1, 1) := by decide +kernel
theorem dX6_chanceOn_24 : decode cX6_chanceOn 24 = .ok (.iand, 1) := by decide +kernel
theorem dX6_chanceOn_25 : decode cX6_chanceOn 25 = .ok (.istore 5, 2) := by decide +kernel
theorem dX6_chanceOn_27 : decode cX6_chanceOn 27 = .ok (.aload_n 0, 1) := by decide +kernel
theorem dX6_chanceOn_28 : decode cX6_chanceOn 28 = .ok (.iload_n 2, 1) := by decide +kernel
theorem dX6_chanceOn_29 : decode cX6_chanceOn 29 = .ok (.invokevirtual 167, 3) := by decide +kernel
theorem dX6_chanceOn_32 : decode cX6_chanceOn 32 = .ok (.ifCond .eq 13, 3) := by decide +kernel
theorem dX6_chanceOn_35 : decode cX6_chanceOn 35 = .ok (.sipush 256, 3) := by decide +kernel
theorem dX6_chanceOn_38 : decode cX6_chanceOn 38 = .ok (.iload 4, 2) := by decide +kernel
theorem dX6_chanceOn_40 : decode cX6_chanceOn 40 = .ok (.imul, 1) := by decide +kernel
theorem dX6_chanceOn_41 : decode cX6_chanceOn 41 = .ok (.iload 5, 2) := by decide +kernel
theorem dX6_chanceOn_43 : decode cX6_chanceOn 43 = .ok (.imul, 1) := by decide +kernel
theorem dX6_chanceOn_44 : decode cX6_chanceOn 44 = .ok (.ireturn, 1) := by decide +kernel
theorem dX6_chanceOn_45 : decode cX6_chanceOn 45 = .ok (.iload_n 2, 1) := by decide +kernel
theorem dX6_chanceOn_46 : decode cX6_chanceOn 46 = .ok (.bipush 7, 2) := by decide +kernel
theorem dX6_chanceOn_48 : decode cX6_chanceOn 48 = .ok (.irem, 1) := by decide +kernel
theorem dX6_chanceOn_49 : decode cX6_chanceOn 49 = .ok (.bipush 6, 2) := by decide +kernel
theorem dX6_chanceOn_51 : decode cX6_chanceOn 51 = .ok (.if_icmp .ne 7, 3) := by decide +kernel
theorem dX6_chanceOn_54 : decode cX6_chanceOn 54 = .ok (.sipush 256, 3) := by decide +kernel
theorem dX6_chanceOn_57 : decode cX6_chanceOn 57 = .ok (.ireturn, 1) := by decide +kernel
theorem dX6_chanceOn_58 : decode cX6_chanceOn 58 = .ok (.iload_n 2, 1) := by decide +kernel
theorem dX6_chanceOn_59 : decode cX6_chanceOn 59 = .ok (.iconst 2, 1) := by decide +kernel
theorem dX6_chanceOn_60 : decode cX6_chanceOn 60 = .ok (.irem, 1) := by decide +kernel
theorem dX6_chanceOn_61 : decode cX6_chanceOn 61 = .ok (.ifCond .ne 8, 3) := by decide +kernel
theorem dX6_chanceOn_64 : decode cX6_chanceOn 64 = .ok (.iload 4, 2) := by decide +kernel
theorem dX6_chanceOn_66 : decode cX6_chanceOn 66 = .ok (.goto 5, 3) := by decide +kernel
theorem dX6_chanceOn_69 : decode cX6_chanceOn 69 = .ok (.iload 5, 2) := by decide +kernel
theorem dX6_chanceOn_71 : decode cX6_chanceOn 71 = .ok (.istore 6, 2) := by decide +kernel
theorem dX6_chanceOn_73 : decode cX6_chanceOn 73 = .ok (.iload_n 2, 1) := by decide +kernel
theorem dX6_chanceOn_74 : decode cX6_chanceOn 74 = .ok (.iconst 2, 1) := by decide +kernel
theorem dX6_chanceOn_75 : decode cX6_chanceOn 75 = .ok (.irem, 1) := by decide +kernel
theorem dX6_chanceOn_76 : decode cX6_chanceOn 76 = .ok (.ifCond .ne 8, 3) := by decide +kernel
theorem dX6_chanceOn_79 : decode cX6_chanceOn 79 = .ok (.iload 5, 2) := by decide +kernel
theorem dX6_chanceOn_81 : decode cX6_chanceOn 81 = .ok (.goto 5, 3) := by decide +kernel
theorem dX6_chanceOn_84 : decode cX6_chanceOn 84 = .ok (.iload 4, 2) := by decide +kernel
theorem dX6_chanceOn_86 : decode cX6_chanceOn 86 = .ok (.istore 7, 2) := by decide +kernel
theorem dX6_chanceOn_88 : decode cX6_chanceOn 88 = .ok (.iload 6, 2) := by decide +kernel
theorem dX6_chanceOn_90 : decode cX6_chanceOn 90 = .ok (.bipush 16, 2) := by decide +kernel
theorem dX6_chanceOn_92 : decode cX6_chanceOn 92 = .ok (.imul, 1) := by decide +kernel
theorem dX6_chanceOn_93 : decode cX6_chanceOn 93 = .ok (.bipush 16, 2) := by decide +kernel
theorem dX6_chanceOn_95 : decode cX6_chanceOn 95 = .ok (.iload_n 1, 1) := by decide +kernel
theorem dX6_chanceOn_96 : decode cX6_chanceOn 96 = .ok (.isub, 1) := by decide +kernel
theorem dX6_chanceOn_97 : decode cX6_chanceOn 97 = .ok (.imul, 1) := by decide +kernel
theorem dX6_chanceOn_98 : decode cX6_chanceOn 98 = .ok (.iload 7, 2) := by decide +kernel
theorem dX6_chanceOn_100 : decode cX6_chanceOn 100 = .ok (.iload_n 1, 1) := by decide +kernel
theorem dX6_chanceOn_101 : decode cX6_chanceOn 101 = .ok (.imul, 1) := by decide +kernel
theorem dX6_chanceOn_102 : decode cX6_chanceOn 102 = .ok (.bipush 16, 2) := by decide +kernel
theorem dX6_chanceOn_104 : decode cX6_chanceOn 104 = .ok (.iload_n 1, 1) := by decide +kernel
theorem dX6_chanceOn_105 : decode cX6_chanceOn 105 = .ok (.isub, 1) := by decide +kernel
theorem dX6_chanceOn_106 : decode cX6_chanceOn 106 = .ok (.imul, 1) := by decide +kernel
theorem dX6_chanceOn_107 : decode cX6_chanceOn 107 = .ok (.iadd, 1) := by decide +kernel
theorem dX6_chanceOn_108 : decode cX6_chanceOn 108 = .ok (.iload_n 1, 1) := by decide +kernel
theorem dX6_chanceOn_109 : decode cX6_chanceOn 109 = .ok (.iload_n 1, 1) := by decide +kernel
theorem dX6_chanceOn_110 : decode cX6_chanceOn 110 = .ok (.imul, 1) := by decide +kernel
theorem dX6_chanceOn_111 : decode cX6_chanceOn 111 = .ok (.iadd, 1) := by decide +kernel
theorem dX6_chanceOn_112 : decode cX6_chanceOn 112 = .ok (.ireturn, 1) := by decide +kernel
theorem dX6_chanceOf_0 : decode cX6_chanceOf 0 = .ok (.aload_n 0, 1) := by decide +kernel
theorem dX6_chanceOf_1 : decode cX6_chanceOf 1 = .ok (.invokevirtual 194, 3) := by decide +kernel
theorem dX6_chanceOf_4 : decode cX6_chanceOf 4 = .ok (.lconst 1, 1) := by decide +kernel
theorem dX6_chanceOf_5 : decode cX6_chanceOf 5 = .ok (.lstore 6, 2) := by decide +kernel
theorem dX6_chanceOf_7 : decode cX6_chanceOf 7 = .ok (.lconst 1, 1) := by decide +kernel
theorem dX6_chanceOf_8 : decode cX6_chanceOf 8 = .ok (.lstore 8, 2) := by decide +kernel
theorem dX6_chanceOf_10 : decode cX6_chanceOf 10 = .ok (.iconst 0, 1) := by decide +kernel
theorem dX6_chanceOf_11 : decode cX6_chanceOf 11 = .ok (.istore 10, 2) := by decide +kernel
theorem dX6_chanceOf_13 : decode cX6_chanceOf 13 = .ok (.iload 10, 2) := by decide +kernel
theorem dX6_chanceOf_15 : decode cX6_chanceOf 15 = .ok (.iload 4, 2) := by decide +kernel
theorem dX6_chanceOf_17 : decode cX6_chanceOf 17 = .ok (.if_icmp .ge 33, 3) := by decide +kernel
theorem dX6_chanceOf_20 : decode cX6_chanceOf 20 = .ok (.lload 6, 2) := by decide +kernel
theorem dX6_chanceOf_22 : decode cX6_chanceOf 22 = .ok (.aload_n 0, 1) := by decide +kernel
theorem dX6_chanceOf_23 : decode cX6_chanceOf 23 = .ok (.iload_n 1, 1) := by decide +kernel
theorem dX6_chanceOf_24 : decode cX6_chanceOf 24 = .ok (.iload_n 2, 1) := by decide +kernel
theorem dX6_chanceOf_25 : decode cX6_chanceOf 25 = .ok (.iload 10, 2) := by decide +kernel
theorem dX6_chanceOf_27 : decode cX6_chanceOf 27 = .ok (.iadd, 1) := by decide +kernel
theorem dX6_chanceOf_28 : decode cX6_chanceOf 28 = .ok (.iload_n 3, 1) := by decide +kernel
theorem dX6_chanceOf_29 : decode cX6_chanceOf 29 = .ok (.invokevirtual 281, 3) := by decide +kernel
theorem dX6_chanceOf_32 : decode cX6_chanceOf 32 = .ok (.i2l, 1) := by decide +kernel
theorem dX6_chanceOf_33 : decode cX6_chanceOf 33 = .ok (.lmul, 1) := by decide +kernel
theorem dX6_chanceOf_34 : decode cX6_chanceOf 34 = .ok (.lstore 6, 2) := by decide +kernel
theorem dX6_chanceOf_36 : decode cX6_chanceOf 36 = .ok (.lload 8, 2) := by decide +kernel
theorem dX6_chanceOf_38 : decode cX6_chanceOf 38 = .ok (.ldc2_w 284, 3) := by decide +kernel
theorem dX6_chanceOf_41 : decode cX6_chanceOf 41 = .ok (.lmul, 1) := by decide +kernel
theorem dX6_chanceOf_42 : decode cX6_chanceOf 42 = .ok (.lstore 8, 2) := by decide +kernel
theorem dX6_chanceOf_44 : decode cX6_chanceOf 44 = .ok (.iinc 10 1, 3) := by decide +kernel
theorem dX6_chanceOf_47 : decode cX6_chanceOf 47 = .ok (.goto (-34), 3) := by decide +kernel
theorem dX6_chanceOf_50 : decode cX6_chanceOf 50 = .ok (.lload 6, 2) := by decide +kernel
theorem dX6_chanceOf_52 : decode cX6_chanceOf 52 = .ok (.lload 8, 2) := by decide +kernel
theorem dX6_chanceOf_54 : decode cX6_chanceOf 54 = .ok (.iload 5, 2) := by decide +kernel
theorem dX6_chanceOf_56 : decode cX6_chanceOf 56 = .ok (.invokestatic 286, 3) := by decide +kernel
theorem dX6_chanceOf_59 : decode cX6_chanceOf 59 = .ok (.lreturn, 1) := by decide +kernel
theorem dX6_chance_0 : decode cX6_chance 0 = .ok (.iload_n 1, 1) := by decide +kernel
theorem dX6_chance_1 : decode cX6_chance 1 = .ok (.iconst 0, 1) := by decide +kernel
theorem dX6_chance_2 : decode cX6_chance 2 = .ok (.bipush 16, 2) := by decide +kernel
theorem dX6_chance_4 : decode cX6_chance 4 = .ok (.invokestatic 106, 3) := by decide +kernel
theorem dX6_chance_7 : decode cX6_chance 7 = .ok (.ifCond .eq 42, 3) := by decide +kernel
theorem dX6_chance_10 : decode cX6_chance 10 = .ok (.iload_n 2, 1) := by decide +kernel
theorem dX6_chance_11 : decode cX6_chance 11 = .ok (.invokestatic 151, 3) := by decide +kernel
theorem dX6_chance_14 : decode cX6_chance 14 = .ok (.ifCond .eq 35, 3) := by decide +kernel
theorem dX6_chance_17 : decode cX6_chance 17 = .ok (.aload_n 0, 1) := by decide +kernel
theorem dX6_chance_18 : decode cX6_chance 18 = .ok (.iload_n 3, 1) := by decide +kernel
theorem dX6_chance_19 : decode cX6_chance 19 = .ok (.invokevirtual 137, 3) := by decide +kernel
theorem dX6_chance_22 : decode cX6_chance 22 = .ok (.ifCond .eq 27, 3) := by decide +kernel
theorem dX6_chance_25 : decode cX6_chance 25 = .ok (.iload 4, 2) := by decide +kernel
theorem dX6_chance_27 : decode cX6_chance 27 = .ok (.iconst 1, 1) := by decide +kernel
theorem dX6_chance_28 : decode cX6_chance 28 = .ok (.bipush 6, 2) := by decide +kernel
theorem dX6_chance_30 : decode cX6_chance 30 = .ok (.invokestatic 106, 3) := by decide +kernel
theorem dX6_chance_33 : decode cX6_chance 33 = .ok (.ifCond .eq 16, 3) := by decide +kernel
theorem dX6_chance_36 : decode cX6_chance 36 = .ok (.iload_n 2, 1) := by decide +kernel
theorem dX6_chance_37 : decode cX6_chance 37 = .ok (.iload 4, 2) := by decide +kernel
theorem dX6_chance_39 : decode cX6_chance 39 = .ok (.iadd, 1) := by decide +kernel
theorem dX6_chance_40 : decode cX6_chance 40 = .ok (.bipush 40, 2) := by decide +kernel
theorem dX6_chance_42 : decode cX6_chance 42 = .ok (.if_icmp .gt 7, 3) := by decide +kernel
theorem dX6_chance_45 : decode cX6_chance 45 = .ok (.iconst 1, 1) := by decide +kernel
theorem dX6_chance_46 : decode cX6_chance 46 = .ok (.goto 4, 3) := by decide +kernel
theorem dX6_chance_49 : decode cX6_chance 49 = .ok (.iconst 0, 1) := by decide +kernel
theorem dX6_chance_50 : decode cX6_chance 50 = .ok (.istore 6, 2) := by decide +kernel
theorem dX6_chance_52 : decode cX6_chance 52 = .ok (.iload 6, 2) := by decide +kernel
theorem dX6_chance_54 : decode cX6_chance 54 = .ok (.ifCond .eq 25, 3) := by decide +kernel
theorem dX6_chance_57 : decode cX6_chance 57 = .ok (.iload 5, 2) := by decide +kernel
theorem dX6_chance_59 : decode cX6_chance 59 = .ok (.invokestatic 145, 3) := by decide +kernel
theorem dX6_chance_62 : decode cX6_chance 62 = .ok (.ifCond .eq 17, 3) := by decide +kernel
theorem dX6_chance_65 : decode cX6_chance 65 = .ok (.aload_n 0, 1) := by decide +kernel
theorem dX6_chance_66 : decode cX6_chance 66 = .ok (.iload_n 1, 1) := by decide +kernel
theorem dX6_chance_67 : decode cX6_chance 67 = .ok (.iload_n 2, 1) := by decide +kernel
theorem dX6_chance_68 : decode cX6_chance 68 = .ok (.iload_n 3, 1) := by decide +kernel
theorem dX6_chance_69 : decode cX6_chance 69 = .ok (.iload 4, 2) := by decide +kernel
theorem dX6_chance_71 : decode cX6_chance 71 = .ok (.iload 5, 2) := by decide +kernel
theorem dX6_chance_73 : decode cX6_chance 73 = .ok (.invokevirtual 290, 3) := by decide +kernel
theorem dX6_chance_76 : decode cX6_chance 76 = .ok (.goto 8, 3) := by decide +kernel
theorem dX6_chance_79 : decode cX6_chance 79 = .ok (.bipush (-2), 2) := by decide +kernel
theorem dX6_chance_81 : decode cX6_chance 81 = .ok (.invokestatic 294, 3) := by decide +kernel
theorem dX6_chance_84 : decode cX6_chance 84 = .ok (.lreturn, 1) := by decide +kernel
theorem dX6_yearOf_0 : decode cX6_yearOf 0 = .ok (.aload_n 0, 1) := by decide +kernel
theorem dX6_yearOf_1 : decode cX6_yearOf 1 = .ok (.invokevirtual 194, 3) := by decide +kernel
theorem dX6_yearOf_4 : decode cX6_yearOf 4 = .ok (.iload_n 1, 1) := by decide +kernel
theorem dX6_yearOf_5 : decode cX6_yearOf 5 = .ok (.istore 4, 2) := by decide +kernel
theorem dX6_yearOf_7 : decode cX6_yearOf 7 = .ok (.iconst 0, 1) := by decide +kernel
theorem dX6_yearOf_8 : decode cX6_yearOf 8 = .ok (.istore 5, 2) := by decide +kernel
theorem dX6_yearOf_10 : decode cX6_yearOf 10 = .ok (.iconst 0, 1) := by decide +kernel
theorem dX6_yearOf_11 : decode cX6_yearOf 11 = .ok (.istore 6, 2) := by decide +kernel
theorem dX6_yearOf_13 : decode cX6_yearOf 13 = .ok (.iconst 0, 1) := by decide +kernel
theorem dX6_yearOf_14 : decode cX6_yearOf 14 = .ok (.istore 7, 2) := by decide +kernel
theorem dX6_yearOf_16 : decode cX6_yearOf 16 = .ok (.iload 7, 2) := by decide +kernel
theorem dX6_yearOf_18 : decode cX6_yearOf 18 = .ok (.iload_n 2, 1) := by decide +kernel
theorem dX6_yearOf_19 : decode cX6_yearOf 19 = .ok (.if_icmp .ge 98, 3) := by decide +kernel
theorem dX6_yearOf_22 : decode cX6_yearOf 22 = .ok (.aload_n 0, 1) := by decide +kernel
theorem dX6_yearOf_23 : decode cX6_yearOf 23 = .ok (.getfield 114, 3) := by decide +kernel
theorem dX6_yearOf_26 : decode cX6_yearOf 26 = .ok (.ifCond .le 91, 3) := by decide +kernel
theorem dX6_yearOf_29 : decode cX6_yearOf 29 = .ok (.ldc_w 298, 3) := by decide +kernel
theorem dX6_yearOf_32 : decode cX6_yearOf 32 = .ok (.iload 4, 2) := by decide +kernel
theorem dX6_yearOf_34 : decode cX6_yearOf 34 = .ok (.imul, 1) := by decide +kernel
theorem dX6_yearOf_35 : decode cX6_yearOf 35 = .ok (.sipush 12345, 3) := by decide +kernel
theorem dX6_yearOf_38 : decode cX6_yearOf 38 = .ok (.iadd, 1) := by decide +kernel
theorem dX6_yearOf_39 : decode cX6_yearOf 39 = .ok (.istore 4, 2) := by decide +kernel
theorem dX6_yearOf_41 : decode cX6_yearOf 41 = .ok (.iload 4, 2) := by decide +kernel
theorem dX6_yearOf_43 : decode cX6_yearOf 43 = .ok (.bipush 16, 2) := by decide +kernel
theorem dX6_yearOf_45 : decode cX6_yearOf 45 = .ok (.iushr, 1) := by decide +kernel
theorem dX6_yearOf_46 : decode cX6_yearOf 46 = .ok (.aload_n 0, 1) := by decide +kernel
theorem dX6_yearOf_47 : decode cX6_yearOf 47 = .ok (.getfield 114, 3) := by decide +kernel
theorem dX6_yearOf_50 : decode cX6_yearOf 50 = .ok (.irem, 1) := by decide +kernel
theorem dX6_yearOf_51 : decode cX6_yearOf 51 = .ok (.istore 8, 2) := by decide +kernel
theorem dX6_yearOf_53 : decode cX6_yearOf 53 = .ok (.aload_n 0, 1) := by decide +kernel
theorem dX6_yearOf_54 : decode cX6_yearOf 54 = .ok (.getfield 55, 3) := by decide +kernel
theorem dX6_yearOf_57 : decode cX6_yearOf 57 = .ok (.iload 7, 2) := by decide +kernel
theorem dX6_yearOf_59 : decode cX6_yearOf 59 = .ok (.iaload, 1) := by decide +kernel
theorem dX6_yearOf_60 : decode cX6_yearOf 60 = .ok (.iload 8, 2) := by decide +kernel
theorem dX6_yearOf_62 : decode cX6_yearOf 62 = .ok (.invokestatic 127, 3) := by decide +kernel
theorem dX6_yearOf_65 : decode cX6_yearOf 65 = .ok (.ifCond .ne 7, 3) := by decide +kernel
theorem dX6_yearOf_68 : decode cX6_yearOf 68 = .ok (.iconst 1, 1) := by decide +kernel
theorem dX6_yearOf_69 : decode cX6_yearOf 69 = .ok (.goto 4, 3) := by decide +kernel
theorem dX6_yearOf_72 : decode cX6_yearOf 72 = .ok (.iconst 0, 1) := by decide +kernel
theorem dX6_yearOf_73 : decode cX6_yearOf 73 = .ok (.istore 9, 2) := by decide +kernel
theorem dX6_yearOf_75 : decode cX6_yearOf 75 = .ok (.iload 5, 2) := by decide +kernel
theorem dX6_yearOf_77 : decode cX6_yearOf 77 = .ok (.iload 9, 2) := by decide +kernel
theorem dX6_yearOf_79 : decode cX6_yearOf 79 = .ok (.ifCond .eq 7, 3) := by decide +kernel
theorem dX6_yearOf_82 : decode cX6_yearOf 82 = .ok (.iconst 1, 1) := by decide +kernel
theorem dX6_yearOf_83 : decode cX6_yearOf 83 = .ok (.goto 4, 3) := by decide +kernel
theorem dX6_yearOf_86 : decode cX6_yearOf 86 = .ok (.iconst 0, 1) := by decide +kernel
theorem dX6_yearOf_87 : decode cX6_yearOf 87 = .ok (.iadd, 1) := by decide +kernel
theorem dX6_yearOf_88 : decode cX6_yearOf 88 = .ok (.istore 5, 2) := by decide +kernel
theorem dX6_yearOf_90 : decode cX6_yearOf 90 = .ok (.iload 6, 2) := by decide +kernel
theorem dX6_yearOf_92 : decode cX6_yearOf 92 = .ok (.iload 9, 2) := by decide +kernel
theorem dX6_yearOf_94 : decode cX6_yearOf 94 = .ok (.ifCond .eq 13, 3) := by decide +kernel
theorem dX6_yearOf_97 : decode cX6_yearOf 97 = .ok (.aload_n 0, 1) := by decide +kernel
theorem dX6_yearOf_98 : decode cX6_yearOf 98 = .ok (.getfield 13, 3) := by decide +kernel
theorem dX6_yearOf_101 : decode cX6_yearOf 101 = .ok (.iload 8, 2) := by decide +kernel
theorem dX6_yearOf_103 : decode cX6_yearOf 103 = .ok (.iaload, 1) := by decide +kernel
theorem dX6_yearOf_104 : decode cX6_yearOf 104 = .ok (.goto 4, 3) := by decide +kernel
theorem dX6_yearOf_107 : decode cX6_yearOf 107 = .ok (.iconst 0, 1) := by decide +kernel
theorem dX6_yearOf_108 : decode cX6_yearOf 108 = .ok (.iadd, 1) := by decide +kernel
theorem dX6_yearOf_109 : decode cX6_yearOf 109 = .ok (.istore 6, 2) := by decide +kernel
theorem dX6_yearOf_111 : decode cX6_yearOf 111 = .ok (.iinc 7 1, 3) := by decide +kernel
theorem dX6_yearOf_114 : decode cX6_yearOf 114 = .ok (.goto (-98), 3) := by decide +kernel
theorem dX6_yearOf_117 : decode cX6_yearOf 117 = .ok (.iload_n 3, 1) := by decide +kernel
theorem dX6_yearOf_118 : decode cX6_yearOf 118 = .ok (.ifCond .ne 8, 3) := by decide +kernel
theorem dX6_yearOf_121 : decode cX6_yearOf 121 = .ok (.iload 5, 2) := by decide +kernel
theorem dX6_yearOf_123 : decode cX6_yearOf 123 = .ok (.goto 5, 3) := by decide +kernel
theorem dX6_yearOf_126 : decode cX6_yearOf 126 = .ok (.iload 6, 2) := by decide +kernel
theorem dX6_yearOf_128 : decode cX6_yearOf 128 = .ok (.ireturn, 1) := by decide +kernel
theorem dX6_year_0 : decode cX6_year 0 = .ok (.iload_n 2, 1) := by decide +kernel
theorem dX6_year_1 : decode cX6_year 1 = .ok (.iconst 1, 1) := by decide +kernel
theorem dX6_year_2 : decode cX6_year 2 = .ok (.bipush 40, 2) := by decide +kernel
theorem dX6_year_4 : decode cX6_year 4 = .ok (.invokestatic 106, 3) := by decide +kernel
theorem dX6_year_7 : decode cX6_year 7 = .ok (.ifCond .eq 20, 3) := by decide +kernel
theorem dX6_year_10 : decode cX6_year 10 = .ok (.iload_n 3, 1) := by decide +kernel
theorem dX6_year_11 : decode cX6_year 11 = .ok (.invokestatic 145, 3) := by decide +kernel
theorem dX6_year_14 : decode cX6_year 14 = .ok (.ifCond .eq 13, 3) := by decide +kernel
theorem dX6_year_17 : decode cX6_year 17 = .ok (.aload_n 0, 1) := by decide +kernel
theorem dX6_year_18 : decode cX6_year 18 = .ok (.iload_n 1, 1) := by decide +kernel
theorem dX6_year_19 : decode cX6_year 19 = .ok (.iload_n 2, 1) := by decide +kernel
theorem dX6_year_20 : decode cX6_year 20 = .ok (.iload_n 3, 1) := by decide +kernel
theorem dX6_year_21 : decode cX6_year 21 = .ok (.invokevirtual 299, 3) := by decide +kernel
theorem dX6_year_24 : decode cX6_year 24 = .ok (.goto 5, 3) := by decide +kernel
theorem dX6_year_27 : decode cX6_year 27 = .ok (.bipush (-2), 2) := by decide +kernel
theorem dX6_year_29 : decode cX6_year 29 = .ok (.ireturn, 1) := by decide +kernel
theorem dX6_meets_0 : decode cX6_meets 0 = .ok (.aload_n 0, 1) := by decide +kernel
theorem dX6_meets_1 : decode cX6_meets 1 = .ok (.iload_n 1, 1) := by decide +kernel
theorem dX6_meets_2 : decode cX6_meets 2 = .ok (.putfield 302, 3) := by decide +kernel
theorem dX6_meets_5 : decode cX6_meets 5 = .ok (.bipush (-10), 2) := by decide +kernel
theorem dX6_meets_7 : decode cX6_meets 7 = .ok (.iload_n 1, 1) := by decide +kernel
theorem dX6_meets_8 : decode cX6_meets 8 = .ok (.isub, 1) := by decide +kernel
theorem dX6_meets_9 : decode cX6_meets 9 = .ok (.ireturn, 1) := by decide +kernel
theorem dX6_isSheet_0 : decode cX6_isSheet 0 = .ok (.iload_n 0, 1) := by decide +kernel
theorem dX6_isSheet_1 : decode cX6_isSheet 1 = .ok (.iconst 0, 1) := by decide +kernel
theorem dX6_isSheet_2 : decode cX6_isSheet 2 = .ok (.iconst 3, 1) := by decide +kernel
theorem dX6_isSheet_3 : decode cX6_isSheet 3 = .ok (.invokestatic 106, 3) := by decide +kernel
theorem dX6_isSheet_6 : decode cX6_isSheet 6 = .ok (.ireturn, 1) := by decide +kernel
theorem dX6_sheet_0 : decode cX6_sheet 0 = .ok (.iload_n 1, 1) := by decide +kernel
theorem dX6_sheet_1 : decode cX6_sheet 1 = .ok (.invokestatic 157, 3) := by decide +kernel
theorem dX6_sheet_4 : decode cX6_sheet 4 = .ok (.ifCond .eq 18, 3) := by decide +kernel
theorem dX6_sheet_7 : decode cX6_sheet 7 = .ok (.iload_n 2, 1) := by decide +kernel
theorem dX6_sheet_8 : decode cX6_sheet 8 = .ok (.iconst 0, 1) := by decide +kernel
theorem dX6_sheet_9 : decode cX6_sheet 9 = .ok (.iconst 2, 1) := by decide +kernel
theorem dX6_sheet_10 : decode cX6_sheet 10 = .ok (.invokestatic 106, 3) := by decide +kernel
theorem dX6_sheet_13 : decode cX6_sheet 13 = .ok (.ifCond .eq 9, 3) := by decide +kernel
theorem dX6_sheet_16 : decode cX6_sheet 16 = .ok (.iload_n 3, 1) := by decide +kernel
theorem dX6_sheet_17 : decode cX6_sheet 17 = .ok (.bipush 60, 2) := by decide +kernel
theorem dX6_sheet_19 : decode cX6_sheet 19 = .ok (.if_icmp .le 6, 3) := by decide +kernel
theorem dX6_sheet_22 : decode cX6_sheet 22 = .ok (.bipush (-2), 2) := by decide +kernel
theorem dX6_sheet_24 : decode cX6_sheet 24 = .ok (.ireturn, 1) := by decide +kernel
theorem dX6_sheet_25 : decode cX6_sheet 25 = .ok (.iload_n 3, 1) := by decide +kernel
theorem dX6_sheet_26 : decode cX6_sheet 26 = .ok (.ifCond .ge 9, 3) := by decide +kernel
theorem dX6_sheet_29 : decode cX6_sheet 29 = .ok (.aload_n 0, 1) := by decide +kernel
theorem dX6_sheet_30 : decode cX6_sheet 30 = .ok (.iconst 5, 1) := by decide +kernel
theorem dX6_sheet_31 : decode cX6_sheet 31 = .ok (.invokevirtual 160, 3) := by decide +kernel
theorem dX6_sheet_34 : decode cX6_sheet 34 = .ok (.ireturn, 1) := by decide +kernel
theorem dX6_sheet_35 : decode cX6_sheet 35 = .ok (.aload_n 0, 1) := by decide +kernel
theorem dX6_sheet_36 : decode cX6_sheet 36 = .ok (.getfield 88, 3) := by decide +kernel
theorem dX6_sheet_39 : decode cX6_sheet 39 = .ok (.iload_n 1, 1) := by decide +kernel
theorem dX6_sheet_40 : decode cX6_sheet 40 = .ok (.iconst 1, 1) := by decide +kernel
theorem dX6_sheet_41 : decode cX6_sheet 41 = .ok (.bastore, 1) := by decide +kernel
theorem dX6_sheet_42 : decode cX6_sheet 42 = .ok (.aload_n 0, 1) := by decide +kernel
theorem dX6_sheet_43 : decode cX6_sheet 43 = .ok (.getfield 92, 3) := by decide +kernel
theorem dX6_sheet_46 : decode cX6_sheet 46 = .ok (.iload_n 1, 1) := by decide +kernel
theorem dX6_sheet_47 : decode cX6_sheet 47 = .ok (.iload_n 2, 1) := by decide +kernel
theorem dX6_sheet_48 : decode cX6_sheet 48 = .ok (.iastore, 1) := by decide +kernel
theorem dX6_sheet_49 : decode cX6_sheet 49 = .ok (.aload_n 0, 1) := by decide +kernel
theorem dX6_sheet_50 : decode cX6_sheet 50 = .ok (.getfield 95, 3) := by decide +kernel
theorem dX6_sheet_53 : decode cX6_sheet 53 = .ok (.iload_n 1, 1) := by decide +kernel
theorem dX6_sheet_54 : decode cX6_sheet 54 = .ok (.iload_n 3, 1) := by decide +kernel
theorem dX6_sheet_55 : decode cX6_sheet 55 = .ok (.iastore, 1) := by decide +kernel
theorem dX6_sheet_56 : decode cX6_sheet 56 = .ok (.iconst 0, 1) := by decide +kernel
theorem dX6_sheet_57 : decode cX6_sheet 57 = .ok (.istore 4, 2) := by decide +kernel
theorem dX6_sheet_59 : decode cX6_sheet 59 = .ok (.iload 4, 2) := by decide +kernel
theorem dX6_sheet_61 : decode cX6_sheet 61 = .ok (.bipush 60, 2) := by decide +kernel
theorem dX6_sheet_63 : decode cX6_sheet 63 = .ok (.if_icmp .ge 22, 3) := by decide +kernel
theorem dX6_sheet_66 : decode cX6_sheet 66 = .ok (.aload_n 0, 1) := by decide +kernel
theorem dX6_sheet_67 : decode cX6_sheet 67 = .ok (.getfield 98, 3) := by decide +kernel
theorem dX6_sheet_70 : decode cX6_sheet 70 = .ok (.bipush 60, 2) := by decide +kernel
theorem dX6_sheet_72 : decode cX6_sheet 72 = .ok (.iload_n 1, 1) := by decide +kernel
theorem dX6_sheet_73 : decode cX6_sheet 73 = .ok (.imul, 1) := by decide +kernel
theorem dX6_sheet_74 : decode cX6_sheet 74 = .ok (.iload 4, 2) := by decide +kernel
theorem dX6_sheet_76 : decode cX6_sheet 76 = .ok (.iadd, 1) := by decide +kernel
theorem dX6_sheet_77 : decode cX6_sheet 77 = .ok (.iconst 0, 1) := by decide +kernel
theorem dX6_sheet_78 : decode cX6_sheet 78 = .ok (.iastore, 1) := by decide +kernel
theorem dX6_sheet_79 : decode cX6_sheet 79 = .ok (.iinc 4 1, 3) := by decide +kernel
theorem dX6_sheet_82 : decode cX6_sheet 82 = .ok (.goto (-23), 3) := by decide +kernel
theorem dX6_sheet_85 : decode cX6_sheet 85 = .ok (.iload_n 3, 1) := by decide +kernel
theorem dX6_sheet_86 : decode cX6_sheet 86 = .ok (.ireturn, 1) := by decide +kernel
theorem dX6_lose_0 : decode cX6_lose 0 = .ok (.iload_n 1, 1) := by decide +kernel
theorem dX6_lose_1 : decode cX6_lose 1 = .ok (.invokestatic 157, 3) := by decide +kernel
theorem dX6_lose_4 : decode cX6_lose 4 = .ok (.ifCond .ne 6, 3) := by decide +kernel
theorem dX6_lose_7 : decode cX6_lose 7 = .ok (.bipush (-2), 2) := by decide +kernel
theorem dX6_lose_9 : decode cX6_lose 9 = .ok (.ireturn, 1) := by decide +kernel
theorem dX6_lose_10 : decode cX6_lose 10 = .ok (.aload_n 0, 1) := by decide +kernel
theorem dX6_lose_11 : decode cX6_lose 11 = .ok (.getfield 88, 3) := by decide +kernel
theorem dX6_lose_14 : decode cX6_lose 14 = .ok (.iload_n 1, 1) := by decide +kernel
theorem dX6_lose_15 : decode cX6_lose 15 = .ok (.baload, 1) := by decide +kernel
theorem dX6_lose_16 : decode cX6_lose 16 = .ok (.ifCond .ne 9, 3) := by decide +kernel
theorem dX6_lose_19 : decode cX6_lose 19 = .ok (.aload_n 0, 1) := by decide +kernel
theorem dX6_lose_20 : decode cX6_lose 20 = .ok (.iconst 1, 1) := by decide +kernel
theorem dX6_lose_21 : decode cX6_lose 21 = .ok (.invokevirtual 160, 3) := by decide +kernel
theorem dX6_lose_24 : decode cX6_lose 24 = .ok (.ireturn, 1) := by decide +kernel
theorem dX6_lose_25 : decode cX6_lose 25 = .ok (.aload_n 0, 1) := by decide +kernel
theorem dX6_lose_26 : decode cX6_lose 26 = .ok (.getfield 88, 3) := by decide +kernel
theorem dX6_lose_29 : decode cX6_lose 29 = .ok (.iload_n 1, 1) := by decide +kernel
theorem dX6_lose_30 : decode cX6_lose 30 = .ok (.iconst 0, 1) := by decide +kernel
theorem dX6_lose_31 : decode cX6_lose 31 = .ok (.bastore, 1) := by decide +kernel
theorem dX6_lose_32 : decode cX6_lose 32 = .ok (.aload_n 0, 1) := by decide +kernel
theorem dX6_lose_33 : decode cX6_lose 33 = .ok (.getfield 95, 3) := by decide +kernel
theorem dX6_lose_36 : decode cX6_lose 36 = .ok (.iload_n 1, 1) := by decide +kernel
theorem dX6_lose_37 : decode cX6_lose 37 = .ok (.iaload, 1) := by decide +kernel
theorem dX6_lose_38 : decode cX6_lose 38 = .ok (.ireturn, 1) := by decide +kernel
theorem dX6_lacks_0 : decode cX6_lacks 0 = .ok (.aload_n 0, 1) := by decide +kernel
theorem dX6_lacks_1 : decode cX6_lacks 1 = .ok (.getfield 88, 3) := by decide +kernel
theorem dX6_lacks_4 : decode cX6_lacks 4 = .ok (.iload_n 1, 1) := by decide +kernel
theorem dX6_lacks_5 : decode cX6_lacks 5 = .ok (.baload, 1) := by decide +kernel
theorem dX6_lacks_6 : decode cX6_lacks 6 = .ok (.ifCond .ne 7, 3) := by decide +kernel
theorem dX6_lacks_9 : decode cX6_lacks 9 = .ok (.iconst 1, 1) := by decide +kernel
theorem dX6_lacks_10 : decode cX6_lacks 10 = .ok (.goto 38, 3) := by decide +kernel
theorem dX6_lacks_13 : decode cX6_lacks 13 = .ok (.aload_n 0, 1) := by decide +kernel
theorem dX6_lacks_14 : decode cX6_lacks 14 = .ok (.getfield 92, 3) := by decide +kernel
theorem dX6_lacks_17 : decode cX6_lacks 17 = .ok (.iload_n 1, 1) := by decide +kernel
theorem dX6_lacks_18 : decode cX6_lacks 18 = .ok (.iaload, 1) := by decide +kernel
theorem dX6_lacks_19 : decode cX6_lacks 19 = .ok (.iload_n 2, 1) := by decide +kernel
theorem dX6_lacks_20 : decode cX6_lacks 20 = .ok (.if_icmp .eq 7, 3) := by decide +kernel
theorem dX6_lacks_23 : decode cX6_lacks 23 = .ok (.iconst 3, 1) := by decide +kernel
theorem dX6_lacks_24 : decode cX6_lacks 24 = .ok (.goto 24, 3) := by decide +kernel
theorem dX6_lacks_27 : decode cX6_lacks 27 = .ok (.iload_n 3, 1) := by decide +kernel
theorem dX6_lacks_28 : decode cX6_lacks 28 = .ok (.iconst 0, 1) := by decide +kernel
theorem dX6_lacks_29 : decode cX6_lacks 29 = .ok (.aload_n 0, 1) := by decide +kernel
theorem dX6_lacks_30 : decode cX6_lacks 30 = .ok (.getfield 95, 3) := by decide +kernel
theorem dX6_lacks_33 : decode cX6_lacks 33 = .ok (.iload_n 1, 1) := by decide +kernel
theorem dX6_lacks_34 : decode cX6_lacks 34 = .ok (.iaload, 1) := by decide +kernel
theorem dX6_lacks_35 : decode cX6_lacks 35 = .ok (.iconst 1, 1) := by decide +kernel
theorem dX6_lacks_36 : decode cX6_lacks 36 = .ok (.isub, 1) := by decide +kernel
theorem dX6_lacks_37 : decode cX6_lacks 37 = .ok (.invokestatic 106, 3) := by decide +kernel
theorem dX6_lacks_40 : decode cX6_lacks 40 = .ok (.ifCond .eq 7, 3) := by decide +kernel
theorem dX6_lacks_43 : decode cX6_lacks 43 = .ok (.iconst 0, 1) := by decide +kernel
theorem dX6_lacks_44 : decode cX6_lacks 44 = .ok (.goto 4, 3) := by decide +kernel
theorem dX6_lacks_47 : decode cX6_lacks 47 = .ok (.iconst 2, 1) := by decide +kernel
theorem dX6_lacks_48 : decode cX6_lacks 48 = .ok (.ireturn, 1) := by decide +kernel
theorem dX6_keep_0 : decode cX6_keep 0 = .ok (.aload_n 0, 1) := by decide +kernel
theorem dX6_keep_1 : decode cX6_keep 1 = .ok (.getfield 98, 3) := by decide +kernel
theorem dX6_keep_4 : decode cX6_keep 4 = .ok (.bipush 60, 2) := by decide +kernel
theorem dX6_keep_6 : decode cX6_keep 6 = .ok (.iload_n 1, 1) := by decide +kernel
theorem dX6_keep_7 : decode cX6_keep 7 = .ok (.imul, 1) := by decide +kernel
theorem dX6_keep_8 : decode cX6_keep 8 = .ok (.iload_n 2, 1) := by decide +kernel
theorem dX6_keep_9 : decode cX6_keep 9 = .ok (.iadd, 1) := by decide +kernel
theorem dX6_keep_10 : decode cX6_keep 10 = .ok (.aload_n 0, 1) := by decide +kernel
theorem dX6_keep_11 : decode cX6_keep 11 = .ok (.getfield 92, 3) := by decide +kernel
theorem dX6_keep_14 : decode cX6_keep 14 = .ok (.iload_n 1, 1) := by decide +kernel
theorem dX6_keep_15 : decode cX6_keep 15 = .ok (.iaload, 1) := by decide +kernel
theorem dX6_keep_16 : decode cX6_keep 16 = .ok (.ifCond .ne 8, 3) := by decide +kernel
theorem dX6_keep_19 : decode cX6_keep 19 = .ok (.iload_n 3, 1) := by decide +kernel
theorem dX6_keep_20 : decode cX6_keep 20 = .ok (.i2b, 1) := by decide +kernel
theorem dX6_keep_21 : decode cX6_keep 21 = .ok (.goto 19, 3) := by decide +kernel
theorem dX6_keep_24 : decode cX6_keep 24 = .ok (.aload_n 0, 1) := by decide +kernel
theorem dX6_keep_25 : decode cX6_keep 25 = .ok (.getfield 92, 3) := by decide +kernel
theorem dX6_keep_28 : decode cX6_keep 28 = .ok (.iload_n 1, 1) := by decide +kernel
theorem dX6_keep_29 : decode cX6_keep 29 = .ok (.iaload, 1) := by decide +kernel
theorem dX6_keep_30 : decode cX6_keep 30 = .ok (.iconst 1, 1) := by decide +kernel
theorem dX6_keep_31 : decode cX6_keep 31 = .ok (.if_icmp .ne 8, 3) := by decide +kernel
theorem dX6_keep_34 : decode cX6_keep 34 = .ok (.iload_n 3, 1) := by decide +kernel
theorem dX6_keep_35 : decode cX6_keep 35 = .ok (.i2s, 1) := by decide +kernel
theorem dX6_keep_36 : decode cX6_keep 36 = .ok (.goto 4, 3) := by decide +kernel
theorem dX6_keep_39 : decode cX6_keep 39 = .ok (.iload_n 3, 1) := by decide +kernel
theorem dX6_keep_40 : decode cX6_keep 40 = .ok (.iastore, 1) := by decide +kernel
theorem dX6_keep_41 : decode cX6_keep 41 = .ok (.return_, 1) := by decide +kernel
theorem dX6_put_0 : decode cX6_put 0 = .ok (.iload_n 1, 1) := by decide +kernel
theorem dX6_put_1 : decode cX6_put 1 = .ok (.invokestatic 157, 3) := by decide +kernel
theorem dX6_put_4 : decode cX6_put 4 = .ok (.ifCond .eq 12, 3) := by decide +kernel
theorem dX6_put_7 : decode cX6_put 7 = .ok (.iload_n 2, 1) := by decide +kernel
theorem dX6_put_8 : decode cX6_put 8 = .ok (.iconst 0, 1) := by decide +kernel
theorem dX6_put_9 : decode cX6_put 9 = .ok (.iconst 2, 1) := by decide +kernel
theorem dX6_put_10 : decode cX6_put 10 = .ok (.invokestatic 106, 3) := by decide +kernel
theorem dX6_put_13 : decode cX6_put 13 = .ok (.ifCond .ne 6, 3) := by decide +kernel
theorem dX6_put_16 : decode cX6_put 16 = .ok (.bipush (-2), 2) := by decide +kernel
theorem dX6_put_18 : decode cX6_put 18 = .ok (.ireturn, 1) := by decide +kernel
theorem dX6_put_19 : decode cX6_put 19 = .ok (.aload_n 0, 1) := by decide +kernel
theorem dX6_put_20 : decode cX6_put 20 = .ok (.iload_n 1, 1) := by decide +kernel
theorem dX6_put_21 : decode cX6_put 21 = .ok (.iload_n 2, 1) := by decide +kernel
theorem dX6_put_22 : decode cX6_put 22 = .ok (.iload_n 3, 1) := by decide +kernel
theorem dX6_put_23 : decode cX6_put 23 = .ok (.invokevirtual 305, 3) := by decide +kernel
theorem dX6_put_26 : decode cX6_put 26 = .ok (.istore 5, 2) := by decide +kernel
theorem dX6_put_28 : decode cX6_put 28 = .ok (.iload 5, 2) := by decide +kernel
theorem dX6_put_30 : decode cX6_put 30 = .ok (.ifCond .le 10, 3) := by decide +kernel
theorem dX6_put_33 : decode cX6_put 33 = .ok (.aload_n 0, 1) := by decide +kernel
theorem dX6_put_34 : decode cX6_put 34 = .ok (.iload 5, 2) := by decide +kernel
theorem dX6_put_36 : decode cX6_put 36 = .ok (.invokevirtual 160, 3) := by decide +kernel
theorem dX6_put_39 : decode cX6_put 39 = .ok (.ireturn, 1) := by decide +kernel
theorem dX6_put_40 : decode cX6_put 40 = .ok (.aload_n 0, 1) := by decide +kernel
theorem dX6_put_41 : decode cX6_put 41 = .ok (.iload_n 1, 1) := by decide +kernel
theorem dX6_put_42 : decode cX6_put 42 = .ok (.iload_n 3, 1) := by decide +kernel
theorem dX6_put_43 : decode cX6_put 43 = .ok (.iload 4, 2) := by decide +kernel
theorem dX6_put_45 : decode cX6_put 45 = .ok (.invokevirtual 308, 3) := by decide +kernel
theorem dX6_put_48 : decode cX6_put 48 = .ok (.iconst 1, 1) := by decide +kernel
theorem dX6_put_49 : decode cX6_put 49 = .ok (.ireturn, 1) := by decide +kernel
theorem dX6_get_0 : decode cX6_get 0 = .ok (.iload_n 1, 1) := by decide +kernel
theorem dX6_get_1 : decode cX6_get 1 = .ok (.invokestatic 157, 3) := by decide +kernel
theorem dX6_get_4 : decode cX6_get 4 = .ok (.ifCond .eq 12, 3) := by decide +kernel
theorem dX6_get_7 : decode cX6_get 7 = .ok (.iload_n 2, 1) := by decide +kernel
theorem dX6_get_8 : decode cX6_get 8 = .ok (.iconst 0, 1) := by decide +kernel
theorem dX6_get_9 : decode cX6_get 9 = .ok (.iconst 2, 1) := by decide +kernel
theorem dX6_get_10 : decode cX6_get 10 = .ok (.invokestatic 106, 3) := by decide +kernel
theorem dX6_get_13 : decode cX6_get 13 = .ok (.ifCond .ne 7, 3) := by decide +kernel
theorem dX6_get_16 : decode cX6_get 16 = .ok (.ldc_w 311, 3) := by decide +kernel
theorem dX6_get_19 : decode cX6_get 19 = .ok (.ireturn, 1) := by decide +kernel
theorem dX6_get_20 : decode cX6_get 20 = .ok (.aload_n 0, 1) := by decide +kernel
theorem dX6_get_21 : decode cX6_get 21 = .ok (.iload_n 1, 1) := by decide +kernel
theorem dX6_get_22 : decode cX6_get 22 = .ok (.iload_n 2, 1) := by decide +kernel
theorem dX6_get_23 : decode cX6_get 23 = .ok (.iload_n 3, 1) := by decide +kernel
theorem dX6_get_24 : decode cX6_get 24 = .ok (.invokevirtual 305, 3) := by decide +kernel
theorem dX6_get_27 : decode cX6_get 27 = .ok (.istore 4, 2) := by decide +kernel
theorem dX6_get_29 : decode cX6_get 29 = .ok (.iload 4, 2) := by decide +kernel
theorem dX6_get_31 : decode cX6_get 31 = .ok (.ifCond .le 13, 3) := by decide +kernel
theorem dX6_get_34 : decode cX6_get 34 = .ok (.aload_n 0, 1) := by decide +kernel
theorem dX6_get_35 : decode cX6_get 35 = .ok (.iload 4, 2) := by decide +kernel
theorem dX6_get_37 : decode cX6_get 37 = .ok (.putfield 302, 3) := by decide +kernel
theorem dX6_get_40 : decode cX6_get 40 = .ok (.ldc_w 311, 3) := by decide +kernel
theorem dX6_get_43 : decode cX6_get 43 = .ok (.ireturn, 1) := by decide +kernel
theorem dX6_get_44 : decode cX6_get 44 = .ok (.aload_n 0, 1) := by decide +kernel
theorem dX6_get_45 : decode cX6_get 45 = .ok (.getfield 98, 3) := by decide +kernel
theorem dX6_get_48 : decode cX6_get 48 = .ok (.bipush 60, 2) := by decide +kernel
theorem dX6_get_50 : decode cX6_get 50 = .ok (.iload_n 1, 1) := by decide +kernel
theorem dX6_get_51 : decode cX6_get 51 = .ok (.imul, 1) := by decide +kernel
theorem dX6_get_52 : decode cX6_get 52 = .ok (.iload_n 3, 1) := by decide +kernel
theorem dX6_get_53 : decode cX6_get 53 = .ok (.iadd, 1) := by decide +kernel
theorem dX6_get_54 : decode cX6_get 54 = .ok (.iaload, 1) := by decide +kernel
theorem dX6_get_55 : decode cX6_get 55 = .ok (.ireturn, 1) := by decide +kernel
theorem dX6_copy_0 : decode cX6_copy 0 = .ok (.iload_n 1, 1) := by decide +kernel
theorem dX6_copy_1 : decode cX6_copy 1 = .ok (.invokestatic 157, 3) := by decide +kernel
theorem dX6_copy_4 : decode cX6_copy 4 = .ok (.ifCond .eq 10, 3) := by decide +kernel
theorem dX6_copy_7 : decode cX6_copy 7 = .ok (.iload_n 3, 1) := by decide +kernel
theorem dX6_copy_8 : decode cX6_copy 8 = .ok (.invokestatic 157, 3) := by decide +kernel
theorem dX6_copy_11 : decode cX6_copy 11 = .ok (.ifCond .ne 6, 3) := by decide +kernel
theorem dX6_copy_14 : decode cX6_copy 14 = .ok (.bipush (-2), 2) := by decide +kernel
theorem dX6_copy_16 : decode cX6_copy 16 = .ok (.ireturn, 1) := by decide +kernel
theorem dX6_copy_17 : decode cX6_copy 17 = .ok (.aload_n 0, 1) := by decide +kernel
theorem dX6_copy_18 : decode cX6_copy 18 = .ok (.getfield 88, 3) := by decide +kernel
theorem dX6_copy_21 : decode cX6_copy 21 = .ok (.iload_n 1, 1) := by decide +kernel
theorem dX6_copy_22 : decode cX6_copy 22 = .ok (.baload, 1) := by decide +kernel
theorem dX6_copy_23 : decode cX6_copy 23 = .ok (.ifCond .eq 12, 3) := by decide +kernel
theorem dX6_copy_26 : decode cX6_copy 26 = .ok (.aload_n 0, 1) := by decide +kernel
theorem dX6_copy_27 : decode cX6_copy 27 = .ok (.getfield 88, 3) := by decide +kernel
theorem dX6_copy_30 : decode cX6_copy 30 = .ok (.iload_n 3, 1) := by decide +kernel
theorem dX6_copy_31 : decode cX6_copy 31 = .ok (.baload, 1) := by decide +kernel
theorem dX6_copy_32 : decode cX6_copy 32 = .ok (.ifCond .ne 9, 3) := by decide +kernel
theorem dX6_copy_35 : decode cX6_copy 35 = .ok (.aload_n 0, 1) := by decide +kernel
theorem dX6_copy_36 : decode cX6_copy 36 = .ok (.iconst 1, 1) := by decide +kernel
theorem dX6_copy_37 : decode cX6_copy 37 = .ok (.invokevirtual 160, 3) := by decide +kernel
theorem dX6_copy_40 : decode cX6_copy 40 = .ok (.ireturn, 1) := by decide +kernel
theorem dX6_copy_41 : decode cX6_copy 41 = .ok (.aload_n 0, 1) := by decide +kernel
theorem dX6_copy_42 : decode cX6_copy 42 = .ok (.getfield 92, 3) := by decide +kernel
theorem dX6_copy_45 : decode cX6_copy 45 = .ok (.iload_n 1, 1) := by decide +kernel
theorem dX6_copy_46 : decode cX6_copy 46 = .ok (.iaload, 1) := by decide +kernel
theorem dX6_copy_47 : decode cX6_copy 47 = .ok (.aload_n 0, 1) := by decide +kernel
theorem dX6_copy_48 : decode cX6_copy 48 = .ok (.getfield 92, 3) := by decide +kernel
theorem dX6_copy_51 : decode cX6_copy 51 = .ok (.iload_n 3, 1) := by decide +kernel
theorem dX6_copy_52 : decode cX6_copy 52 = .ok (.iaload, 1) := by decide +kernel
theorem dX6_copy_53 : decode cX6_copy 53 = .ok (.if_icmp .eq 9, 3) := by decide +kernel
theorem dX6_copy_56 : decode cX6_copy 56 = .ok (.aload_n 0, 1) := by decide +kernel
theorem dX6_copy_57 : decode cX6_copy 57 = .ok (.iconst 4, 1) := by decide +kernel
theorem dX6_copy_58 : decode cX6_copy 58 = .ok (.invokevirtual 160, 3) := by decide +kernel
theorem dX6_copy_61 : decode cX6_copy 61 = .ok (.ireturn, 1) := by decide +kernel
theorem dX6_copy_62 : decode cX6_copy 62 = .ok (.iload_n 2, 1) := by decide +kernel
theorem dX6_copy_63 : decode cX6_copy 63 = .ok (.ifCond .lt 48, 3) := by decide +kernel
theorem dX6_copy_66 : decode cX6_copy 66 = .ok (.iload 4, 2) := by decide +kernel
theorem dX6_copy_68 : decode cX6_copy 68 = .ok (.ifCond .lt 43, 3) := by decide +kernel
theorem dX6_copy_71 : decode cX6_copy 71 = .ok (.iload 5, 2) := by decide +kernel
theorem dX6_copy_73 : decode cX6_copy 73 = .ok (.ifCond .lt 38, 3) := by decide +kernel
theorem dX6_copy_76 : decode cX6_copy 76 = .ok (.iload_n 2, 1) := by decide +kernel
theorem dX6_copy_77 : decode cX6_copy 77 = .ok (.i2l, 1) := by decide +kernel
theorem dX6_copy_78 : decode cX6_copy 78 = .ok (.iload 5, 2) := by decide +kernel
theorem dX6_copy_80 : decode cX6_copy 80 = .ok (.i2l, 1) := by decide +kernel
theorem dX6_copy_81 : decode cX6_copy 81 = .ok (.ladd, 1) := by decide +kernel
theorem dX6_copy_82 : decode cX6_copy 82 = .ok (.aload_n 0, 1) := by decide +kernel
theorem dX6_copy_83 : decode cX6_copy 83 = .ok (.getfield 95, 3) := by decide +kernel
theorem dX6_copy_86 : decode cX6_copy 86 = .ok (.iload_n 1, 1) := by decide +kernel
theorem dX6_copy_87 : decode cX6_copy 87 = .ok (.iaload, 1) := by decide +kernel
theorem dX6_copy_88 : decode cX6_copy 88 = .ok (.i2l, 1) := by decide +kernel
theorem dX6_copy_89 : decode cX6_copy 89 = .ok (.lcmp, 1) := by decide +kernel
theorem dX6_copy_90 : decode cX6_copy 90 = .ok (.ifCond .gt 21, 3) := by decide +kernel
theorem dX6_copy_93 : decode cX6_copy 93 = .ok (.iload 4, 2) := by decide +kernel
theorem dX6_copy_95 : decode cX6_copy 95 = .ok (.i2l, 1) := by decide +kernel
theorem dX6_copy_96 : decode cX6_copy 96 = .ok (.iload 5, 2) := by decide +kernel
theorem dX6_copy_98 : decode cX6_copy 98 = .ok (.i2l, 1) := by decide +kernel
theorem dX6_copy_99 : decode cX6_copy 99 = .ok (.ladd, 1) := by decide +kernel
theorem dX6_copy_100 : decode cX6_copy 100 = .ok (.aload_n 0, 1) := by decide +kernel
theorem dX6_copy_101 : decode cX6_copy 101 = .ok (.getfield 95, 3) := by decide +kernel
theorem dX6_copy_104 : decode cX6_copy 104 = .ok (.iload_n 3, 1) := by decide +kernel
theorem dX6_copy_105 : decode cX6_copy 105 = .ok (.iaload, 1) := by decide +kernel
theorem dX6_copy_106 : decode cX6_copy 106 = .ok (.i2l, 1) := by decide +kernel
theorem dX6_copy_107 : decode cX6_copy 107 = .ok (.lcmp, 1) := by decide +kernel
theorem dX6_copy_108 : decode cX6_copy 108 = .ok (.ifCond .le 9, 3) := by decide +kernel
theorem dX6_copy_111 : decode cX6_copy 111 = .ok (.aload_n 0, 1) := by decide +kernel
theorem dX6_copy_112 : decode cX6_copy 112 = .ok (.iconst 2, 1) := by decide +kernel
theorem dX6_copy_113 : decode cX6_copy 113 = .ok (.invokevirtual 160, 3) := by decide +kernel
theorem dX6_copy_116 : decode cX6_copy 116 = .ok (.ireturn, 1) := by decide +kernel
theorem dX6_copy_117 : decode cX6_copy 117 = .ok (.iconst 0, 1) := by decide +kernel
theorem dX6_copy_118 : decode cX6_copy 118 = .ok (.istore 6, 2) := by decide +kernel
theorem dX6_copy_120 : decode cX6_copy 120 = .ok (.iload 6, 2) := by decide +kernel
theorem dX6_copy_122 : decode cX6_copy 122 = .ok (.iload 5, 2) := by decide +kernel
theorem dX6_copy_124 : decode cX6_copy 124 = .ok (.if_icmp .ge 30, 3) := by decide +kernel
theorem dX6_copy_127 : decode cX6_copy 127 = .ok (.aload_n 0, 1) := by decide +kernel
theorem dX6_copy_128 : decode cX6_copy 128 = .ok (.getfield 101, 3) := by decide +kernel
theorem dX6_copy_131 : decode cX6_copy 131 = .ok (.iload 6, 2) := by decide +kernel
theorem dX6_copy_133 : decode cX6_copy 133 = .ok (.aload_n 0, 1) := by decide +kernel
theorem dX6_copy_134 : decode cX6_copy 134 = .ok (.getfield 98, 3) := by decide +kernel
theorem dX6_copy_137 : decode cX6_copy 137 = .ok (.bipush 60, 2) := by decide +kernel
theorem dX6_copy_139 : decode cX6_copy 139 = .ok (.iload_n 1, 1) := by decide +kernel
theorem dX6_copy_140 : decode cX6_copy 140 = .ok (.imul, 1) := by decide +kernel
theorem dX6_copy_141 : decode cX6_copy 141 = .ok (.iload_n 2, 1) := by decide +kernel
theorem dX6_copy_142 : decode cX6_copy 142 = .ok (.iadd, 1) := by decide +kernel
theorem dX6_copy_143 : decode cX6_copy 143 = .ok (.iload 6, 2) := by decide +kernel
theorem dX6_copy_145 : decode cX6_copy 145 = .ok (.iadd, 1) := by decide +kernel
theorem dX6_copy_146 : decode cX6_copy 146 = .ok (.iaload, 1) := by decide +kernel
theorem dX6_copy_147 : decode cX6_copy 147 = .ok (.iastore, 1) := by decide +kernel
theorem dX6_copy_148 : decode cX6_copy 148 = .ok (.iinc 6 1, 3) := by decide +kernel
theorem dX6_copy_151 : decode cX6_copy 151 = .ok (.goto (-31), 3) := by decide +kernel
theorem dX6_copy_154 : decode cX6_copy 154 = .ok (.iconst 0, 1) := by decide +kernel
theorem dX6_copy_155 : decode cX6_copy 155 = .ok (.istore 6, 2) := by decide +kernel
theorem dX6_copy_157 : decode cX6_copy 157 = .ok (.iload 6, 2) := by decide +kernel
theorem dX6_copy_159 : decode cX6_copy 159 = .ok (.iload 5, 2) := by decide +kernel
theorem dX6_copy_161 : decode cX6_copy 161 = .ok (.if_icmp .ge 31, 3) := by decide +kernel
theorem dX6_copy_164 : decode cX6_copy 164 = .ok (.aload_n 0, 1) := by decide +kernel
theorem dX6_copy_165 : decode cX6_copy 165 = .ok (.getfield 98, 3) := by decide +kernel
theorem dX6_copy_168 : decode cX6_copy 168 = .ok (.bipush 60, 2) := by decide +kernel
theorem dX6_copy_170 : decode cX6_copy 170 = .ok (.iload_n 3, 1) := by decide +kernel
theorem dX6_copy_171 : decode cX6_copy 171 = .ok (.imul, 1) := by decide +kernel
theorem dX6_copy_172 : decode cX6_copy 172 = .ok (.iload 4, 2) := by decide +kernel
theorem dX6_copy_174 : decode cX6_copy 174 = .ok (.iadd, 1) := by decide +kernel
theorem dX6_copy_175 : decode cX6_copy 175 = .ok (.iload 6, 2) := by decide +kernel
theorem dX6_copy_177 : decode cX6_copy 177 = .ok (.iadd, 1) := by decide +kernel
theorem dX6_copy_178 : decode cX6_copy 178 = .ok (.aload_n 0, 1) := by decide +kernel
theorem dX6_copy_179 : decode cX6_copy 179 = .ok (.getfield 101, 3) := by decide +kernel
theorem dX6_copy_182 : decode cX6_copy 182 = .ok (.iload 6, 2) := by decide +kernel
theorem dX6_copy_184 : decode cX6_copy 184 = .ok (.iaload, 1) := by decide +kernel
theorem dX6_copy_185 : decode cX6_copy 185 = .ok (.iastore, 1) := by decide +kernel
theorem dX6_copy_186 : decode cX6_copy 186 = .ok (.iinc 6 1, 3) := by decide +kernel
theorem dX6_copy_189 : decode cX6_copy 189 = .ok (.goto (-32), 3) := by decide +kernel
theorem dX6_copy_192 : decode cX6_copy 192 = .ok (.iconst 1, 1) := by decide +kernel
theorem dX6_copy_193 : decode cX6_copy 193 = .ok (.ireturn, 1) := by decide +kernel
theorem dX6_write_0 : decode cX6_write 0 = .ok (.iload_n 1, 1) := by decide +kernel
theorem dX6_write_1 : decode cX6_write 1 = .ok (.invokestatic 157, 3) := by decide +kernel
theorem dX6_write_4 : decode cX6_write 4 = .ok (.ifCond .ne 6, 3) := by decide +kernel
theorem dX6_write_7 : decode cX6_write 7 = .ok (.bipush (-2), 2) := by decide +kernel
theorem dX6_write_9 : decode cX6_write 9 = .ok (.ireturn, 1) := by decide +kernel
theorem dX6_write_10 : decode cX6_write 10 = .ok (.aload_n 0, 1) := by decide +kernel
theorem dX6_write_11 : decode cX6_write 11 = .ok (.getfield 88, 3) := by decide +kernel
theorem dX6_write_14 : decode cX6_write 14 = .ok (.iload_n 1, 1) := by decide +kernel
theorem dX6_write_15 : decode cX6_write 15 = .ok (.baload, 1) := by decide +kernel
theorem dX6_write_16 : decode cX6_write 16 = .ok (.ifCond .ne 9, 3) := by decide +kernel
theorem dX6_write_19 : decode cX6_write 19 = .ok (.aload_n 0, 1) := by decide +kernel
theorem dX6_write_20 : decode cX6_write 20 = .ok (.iconst 1, 1) := by decide +kernel
theorem dX6_write_21 : decode cX6_write 21 = .ok (.invokevirtual 160, 3) := by decide +kernel
theorem dX6_write_24 : decode cX6_write 24 = .ok (.ireturn, 1) := by decide +kernel
theorem dX6_write_25 : decode cX6_write 25 = .ok (.aload_n 0, 1) := by decide +kernel
theorem dX6_write_26 : decode cX6_write 26 = .ok (.invokevirtual 194, 3) := by decide +kernel
theorem dX6_write_29 : decode cX6_write 29 = .ok (.iconst 0, 1) := by decide +kernel
theorem dX6_write_30 : decode cX6_write 30 = .ok (.istore_n 2, 1) := by decide +kernel
theorem dX6_write_31 : decode cX6_write 31 = .ok (.iload_n 2, 1) := by decide +kernel
theorem dX6_write_32 : decode cX6_write 32 = .ok (.aload_n 0, 1) := by decide +kernel
theorem dX6_write_33 : decode cX6_write 33 = .ok (.getfield 95, 3) := by decide +kernel
theorem dX6_write_36 : decode cX6_write 36 = .ok (.iload_n 1, 1) := by decide +kernel
theorem dX6_write_37 : decode cX6_write 37 = .ok (.iaload, 1) := by decide +kernel
theorem dX6_write_38 : decode cX6_write 38 = .ok (.if_icmp .ge 27, 3) := by decide +kernel
theorem dX6_write_41 : decode cX6_write 41 = .ok (.iload_n 2, 1) := by decide +kernel
theorem dX6_write_42 : decode cX6_write 42 = .ok (.bipush 40, 2) := by decide +kernel
theorem dX6_write_44 : decode cX6_write 44 = .ok (.if_icmp .ge 21, 3) := by decide +kernel
theorem dX6_write_47 : decode cX6_write 47 = .ok (.aload_n 0, 1) := by decide +kernel
theorem dX6_write_48 : decode cX6_write 48 = .ok (.iload_n 1, 1) := by decide +kernel
theorem dX6_write_49 : decode cX6_write 49 = .ok (.iload_n 2, 1) := by decide +kernel
theorem dX6_write_50 : decode cX6_write 50 = .ok (.aload_n 0, 1) := by decide +kernel
theorem dX6_write_51 : decode cX6_write 51 = .ok (.getfield 55, 3) := by decide +kernel
theorem dX6_write_54 : decode cX6_write 54 = .ok (.iload_n 2, 1) := by decide +kernel
theorem dX6_write_55 : decode cX6_write 55 = .ok (.iaload, 1) := by decide +kernel
theorem dX6_write_56 : decode cX6_write 56 = .ok (.invokevirtual 308, 3) := by decide +kernel
theorem dX6_write_59 : decode cX6_write 59 = .ok (.iinc 2 1, 3) := by decide +kernel
theorem dX6_write_62 : decode cX6_write 62 = .ok (.goto (-31), 3) := by decide +kernel
theorem dX6_write_65 : decode cX6_write 65 = .ok (.iload_n 2, 1) := by decide +kernel
theorem dX6_write_66 : decode cX6_write 66 = .ok (.ireturn, 1) := by decide +kernel
theorem dX6_count_0 : decode cX6_count 0 = .ok (.iload_n 1, 1) := by decide +kernel
theorem dX6_count_1 : decode cX6_count 1 = .ok (.tableswitch 89 0 8 #[51, 60, 65, 65, 65, 65, 65, 74, 84], 51) := by decide +kernel
theorem dX6_count_52 : decode cX6_count 52 = .ok (.aload_n 0, 1) := by decide +kernel
theorem dX6_count_53 : decode cX6_count 53 = .ok (.invokevirtual 124, 3) := by decide +kernel
theorem dX6_count_56 : decode cX6_count 56 = .ok (.aload_n 0, 1) := by decide +kernel
theorem dX6_count_57 : decode cX6_count 57 = .ok (.getfield 114, 3) := by decide +kernel
theorem dX6_count_60 : decode cX6_count 60 = .ok (.ireturn, 1) := by decide +kernel
theorem dX6_count_61 : decode cX6_count 61 = .ok (.aload_n 0, 1) := by decide +kernel
theorem dX6_count_62 : decode cX6_count 62 = .ok (.getfield 110, 3) := by decide +kernel
theorem dX6_count_65 : decode cX6_count 65 = .ok (.ireturn, 1) := by decide +kernel
theorem dX6_count_66 : decode cX6_count 66 = .ok (.aload_n 0, 1) := by decide +kernel
theorem dX6_count_67 : decode cX6_count 67 = .ok (.getfield 16, 3) := by decide +kernel
theorem dX6_count_70 : decode cX6_count 70 = .ok (.iload_n 1, 1) := by decide +kernel
theorem dX6_count_71 : decode cX6_count 71 = .ok (.iconst 2, 1) := by decide +kernel
theorem dX6_count_72 : decode cX6_count 72 = .ok (.isub, 1) := by decide +kernel
theorem dX6_count_73 : decode cX6_count 73 = .ok (.iaload, 1) := by decide +kernel
theorem dX6_count_74 : decode cX6_count 74 = .ok (.ireturn, 1) := by decide +kernel
theorem dX6_count_75 : decode cX6_count 75 = .ok (.aload_n 0, 1) := by decide +kernel
theorem dX6_count_76 : decode cX6_count 76 = .ok (.getfield 260, 3) := by decide +kernel
theorem dX6_count_79 : decode cX6_count 79 = .ok (.aload_n 0, 1) := by decide +kernel
theorem dX6_count_80 : decode cX6_count 80 = .ok (.getfield 263, 3) := by decide +kernel
theorem dX6_count_83 : decode cX6_count 83 = .ok (.iadd, 1) := by decide +kernel
theorem dX6_count_84 : decode cX6_count 84 = .ok (.ireturn, 1) := by decide +kernel
theorem dX6_count_85 : decode cX6_count 85 = .ok (.aload_n 0, 1) := by decide +kernel
theorem dX6_count_86 : decode cX6_count 86 = .ok (.getfield 302, 3) := by decide +kernel
theorem dX6_count_89 : decode cX6_count 89 = .ok (.ireturn, 1) := by decide +kernel
theorem dX6_count_90 : decode cX6_count 90 = .ok (.bipush (-2), 2) := by decide +kernel
theorem dX6_count_92 : decode cX6_count 92 = .ok (.ireturn, 1) := by decide +kernel
theorem dX6_deedDigest_0 : decode cX6_deedDigest 0 = .ok (.lload_n 1, 1) := by decide +kernel
theorem dX6_deedDigest_1 : decode cX6_deedDigest 1 = .ok (.lstore 4, 2) := by decide +kernel
theorem dX6_deedDigest_3 : decode cX6_deedDigest 3 = .ok (.iconst 0, 1) := by decide +kernel
theorem dX6_deedDigest_4 : decode cX6_deedDigest 4 = .ok (.istore 6, 2) := by decide +kernel
theorem dX6_deedDigest_6 : decode cX6_deedDigest 6 = .ok (.iload 6, 2) := by decide +kernel
theorem dX6_deedDigest_8 : decode cX6_deedDigest 8 = .ok (.iconst 3, 1) := by decide +kernel
theorem dX6_deedDigest_9 : decode cX6_deedDigest 9 = .ok (.if_icmp .ge 26, 3) := by decide +kernel
theorem dX6_deedDigest_12 : decode cX6_deedDigest 12 = .ok (.ldc2_w 312, 3) := by decide +kernel
theorem dX6_deedDigest_15 : decode cX6_deedDigest 15 = .ok (.lload 4, 2) := by decide +kernel
theorem dX6_deedDigest_17 : decode cX6_deedDigest 17 = .ok (.lmul, 1) := by decide +kernel
theorem dX6_deedDigest_18 : decode cX6_deedDigest 18 = .ok (.aload_n 0, 1) := by decide +kernel
theorem dX6_deedDigest_19 : decode cX6_deedDigest 19 = .ok (.iload_n 3, 1) := by decide +kernel
theorem dX6_deedDigest_20 : decode cX6_deedDigest 20 = .ok (.iload 6, 2) := by decide +kernel
theorem dX6_deedDigest_22 : decode cX6_deedDigest 22 = .ok (.invokevirtual 141, 3) := by decide +kernel
theorem dX6_deedDigest_25 : decode cX6_deedDigest 25 = .ok (.i2l, 1) := by decide +kernel
theorem dX6_deedDigest_26 : decode cX6_deedDigest 26 = .ok (.ladd, 1) := by decide +kernel
theorem dX6_deedDigest_27 : decode cX6_deedDigest 27 = .ok (.lstore 4, 2) := by decide +kernel
theorem dX6_deedDigest_29 : decode cX6_deedDigest 29 = .ok (.iinc 6 1, 3) := by decide +kernel
theorem dX6_deedDigest_32 : decode cX6_deedDigest 32 = .ok (.goto (-26), 3) := by decide +kernel
theorem dX6_deedDigest_35 : decode cX6_deedDigest 35 = .ok (.ldc2_w 312, 3) := by decide +kernel
theorem dX6_deedDigest_38 : decode cX6_deedDigest 38 = .ok (.lload 4, 2) := by decide +kernel
theorem dX6_deedDigest_40 : decode cX6_deedDigest 40 = .ok (.lmul, 1) := by decide +kernel
theorem dX6_deedDigest_41 : decode cX6_deedDigest 41 = .ok (.aload_n 0, 1) := by decide +kernel
theorem dX6_deedDigest_42 : decode cX6_deedDigest 42 = .ok (.iload_n 3, 1) := by decide +kernel
theorem dX6_deedDigest_43 : decode cX6_deedDigest 43 = .ok (.invokevirtual 209, 3) := by decide +kernel
theorem dX6_deedDigest_46 : decode cX6_deedDigest 46 = .ok (.i2l, 1) := by decide +kernel
theorem dX6_deedDigest_47 : decode cX6_deedDigest 47 = .ok (.ladd, 1) := by decide +kernel
theorem dX6_deedDigest_48 : decode cX6_deedDigest 48 = .ok (.lstore 4, 2) := by decide +kernel
theorem dX6_deedDigest_50 : decode cX6_deedDigest 50 = .ok (.ldc2_w 312, 3) := by decide +kernel
theorem dX6_deedDigest_53 : decode cX6_deedDigest 53 = .ok (.lload 4, 2) := by decide +kernel
theorem dX6_deedDigest_55 : decode cX6_deedDigest 55 = .ok (.lmul, 1) := by decide +kernel
theorem dX6_deedDigest_56 : decode cX6_deedDigest 56 = .ok (.aload_n 0, 1) := by decide +kernel
theorem dX6_deedDigest_57 : decode cX6_deedDigest 57 = .ok (.iload_n 3, 1) := by decide +kernel
theorem dX6_deedDigest_58 : decode cX6_deedDigest 58 = .ok (.iconst 3, 1) := by decide +kernel
theorem dX6_deedDigest_59 : decode cX6_deedDigest 59 = .ok (.iconst 5, 1) := by decide +kernel
theorem dX6_deedDigest_60 : decode cX6_deedDigest 60 = .ok (.invokevirtual 225, 3) := by decide +kernel
theorem dX6_deedDigest_63 : decode cX6_deedDigest 63 = .ok (.i2l, 1) := by decide +kernel
theorem dX6_deedDigest_64 : decode cX6_deedDigest 64 = .ok (.ladd, 1) := by decide +kernel
theorem dX6_deedDigest_65 : decode cX6_deedDigest 65 = .ok (.lstore 4, 2) := by decide +kernel
theorem dX6_deedDigest_67 : decode cX6_deedDigest 67 = .ok (.ldc2_w 312, 3) := by decide +kernel
theorem dX6_deedDigest_70 : decode cX6_deedDigest 70 = .ok (.lload 4, 2) := by decide +kernel
theorem dX6_deedDigest_72 : decode cX6_deedDigest 72 = .ok (.lmul, 1) := by decide +kernel
theorem dX6_deedDigest_73 : decode cX6_deedDigest 73 = .ok (.aload_n 0, 1) := by decide +kernel
theorem dX6_deedDigest_74 : decode cX6_deedDigest 74 = .ok (.iload_n 3, 1) := by decide +kernel
theorem dX6_deedDigest_75 : decode cX6_deedDigest 75 = .ok (.iconst 4, 1) := by decide +kernel
theorem dX6_deedDigest_76 : decode cX6_deedDigest 76 = .ok (.iconst 2, 1) := by decide +kernel
theorem dX6_deedDigest_77 : decode cX6_deedDigest 77 = .ok (.iconst 0, 1) := by decide +kernel
theorem dX6_deedDigest_78 : decode cX6_deedDigest 78 = .ok (.invokevirtual 228, 3) := by decide +kernel
theorem dX6_deedDigest_81 : decode cX6_deedDigest 81 = .ok (.i2l, 1) := by decide +kernel
theorem dX6_deedDigest_82 : decode cX6_deedDigest 82 = .ok (.ladd, 1) := by decide +kernel
theorem dX6_deedDigest_83 : decode cX6_deedDigest 83 = .ok (.lstore 4, 2) := by decide +kernel
theorem dX6_deedDigest_85 : decode cX6_deedDigest 85 = .ok (.ldc2_w 312, 3) := by decide +kernel
theorem dX6_deedDigest_88 : decode cX6_deedDigest 88 = .ok (.lload 4, 2) := by decide +kernel
theorem dX6_deedDigest_90 : decode cX6_deedDigest 90 = .ok (.lmul, 1) := by decide +kernel
theorem dX6_deedDigest_91 : decode cX6_deedDigest 91 = .ok (.aload_n 0, 1) := by decide +kernel
theorem dX6_deedDigest_92 : decode cX6_deedDigest 92 = .ok (.iload_n 3, 1) := by decide +kernel
theorem dX6_deedDigest_93 : decode cX6_deedDigest 93 = .ok (.iconst 4, 1) := by decide +kernel
theorem dX6_deedDigest_94 : decode cX6_deedDigest 94 = .ok (.iconst 2, 1) := by decide +kernel
theorem dX6_deedDigest_95 : decode cX6_deedDigest 95 = .ok (.iconst 1, 1) := by decide +kernel
theorem dX6_deedDigest_96 : decode cX6_deedDigest 96 = .ok (.invokevirtual 228, 3) := by decide +kernel
theorem dX6_deedDigest_99 : decode cX6_deedDigest 99 = .ok (.i2l, 1) := by decide +kernel
theorem dX6_deedDigest_100 : decode cX6_deedDigest 100 = .ok (.ladd, 1) := by decide +kernel
theorem dX6_deedDigest_101 : decode cX6_deedDigest 101 = .ok (.lstore 4, 2) := by decide +kernel
theorem dX6_deedDigest_103 : decode cX6_deedDigest 103 = .ok (.ldc2_w 312, 3) := by decide +kernel
theorem dX6_deedDigest_106 : decode cX6_deedDigest 106 = .ok (.lload 4, 2) := by decide +kernel
theorem dX6_deedDigest_108 : decode cX6_deedDigest 108 = .ok (.lmul, 1) := by decide +kernel
theorem dX6_deedDigest_109 : decode cX6_deedDigest 109 = .ok (.aload_n 0, 1) := by decide +kernel
theorem dX6_deedDigest_110 : decode cX6_deedDigest 110 = .ok (.iconst 5, 1) := by decide +kernel
theorem dX6_deedDigest_111 : decode cX6_deedDigest 111 = .ok (.iconst 3, 1) := by decide +kernel
theorem dX6_deedDigest_112 : decode cX6_deedDigest 112 = .ok (.iload_n 3, 1) := by decide +kernel
theorem dX6_deedDigest_113 : decode cX6_deedDigest 113 = .ok (.iconst 4, 1) := by decide +kernel
theorem dX6_deedDigest_114 : decode cX6_deedDigest 114 = .ok (.iconst 0, 1) := by decide +kernel
theorem dX6_deedDigest_115 : decode cX6_deedDigest 115 = .ok (.invokevirtual 290, 3) := by decide +kernel
theorem dX6_deedDigest_118 : decode cX6_deedDigest 118 = .ok (.ladd, 1) := by decide +kernel
theorem dX6_deedDigest_119 : decode cX6_deedDigest 119 = .ok (.lstore 4, 2) := by decide +kernel
theorem dX6_deedDigest_121 : decode cX6_deedDigest 121 = .ok (.ldc2_w 312, 3) := by decide +kernel
theorem dX6_deedDigest_124 : decode cX6_deedDigest 124 = .ok (.lload 4, 2) := by decide +kernel
theorem dX6_deedDigest_126 : decode cX6_deedDigest 126 = .ok (.lmul, 1) := by decide +kernel
theorem dX6_deedDigest_127 : decode cX6_deedDigest 127 = .ok (.aload_n 0, 1) := by decide +kernel
theorem dX6_deedDigest_128 : decode cX6_deedDigest 128 = .ok (.iconst 5, 1) := by decide +kernel
theorem dX6_deedDigest_129 : decode cX6_deedDigest 129 = .ok (.iconst 3, 1) := by decide +kernel
theorem dX6_deedDigest_130 : decode cX6_deedDigest 130 = .ok (.iload_n 3, 1) := by decide +kernel
theorem dX6_deedDigest_131 : decode cX6_deedDigest 131 = .ok (.iconst 4, 1) := by decide +kernel
theorem dX6_deedDigest_132 : decode cX6_deedDigest 132 = .ok (.iconst 1, 1) := by decide +kernel
theorem dX6_deedDigest_133 : decode cX6_deedDigest 133 = .ok (.invokevirtual 290, 3) := by decide +kernel
theorem dX6_deedDigest_136 : decode cX6_deedDigest 136 = .ok (.ladd, 1) := by decide +kernel
theorem dX6_deedDigest_137 : decode cX6_deedDigest 137 = .ok (.lreturn, 1) := by decide +kernel
theorem dX6_dayDigest_0 : decode cX6_dayDigest 0 = .ok (.ldc2_w 312, 3) := by decide +kernel
theorem dX6_dayDigest_3 : decode cX6_dayDigest 3 = .ok (.lload_n 1, 1) := by decide +kernel
theorem dX6_dayDigest_4 : decode cX6_dayDigest 4 = .ok (.lmul, 1) := by decide +kernel
theorem dX6_dayDigest_5 : decode cX6_dayDigest 5 = .ok (.aload_n 0, 1) := by decide +kernel
theorem dX6_dayDigest_6 : decode cX6_dayDigest 6 = .ok (.iload_n 3, 1) := by decide +kernel
theorem dX6_dayDigest_7 : decode cX6_dayDigest 7 = .ok (.invokevirtual 173, 3) := by decide +kernel
theorem dX6_dayDigest_10 : decode cX6_dayDigest 10 = .ok (.i2l, 1) := by decide +kernel
theorem dX6_dayDigest_11 : decode cX6_dayDigest 11 = .ok (.ladd, 1) := by decide +kernel
theorem dX6_dayDigest_12 : decode cX6_dayDigest 12 = .ok (.lstore 4, 2) := by decide +kernel
theorem dX6_dayDigest_14 : decode cX6_dayDigest 14 = .ok (.ldc2_w 312, 3) := by decide +kernel
theorem dX6_dayDigest_17 : decode cX6_dayDigest 17 = .ok (.lload 4, 2) := by decide +kernel
theorem dX6_dayDigest_19 : decode cX6_dayDigest 19 = .ok (.lmul, 1) := by decide +kernel
theorem dX6_dayDigest_20 : decode cX6_dayDigest 20 = .ok (.aload_n 0, 1) := by decide +kernel
theorem dX6_dayDigest_21 : decode cX6_dayDigest 21 = .ok (.iload_n 3, 1) := by decide +kernel
theorem dX6_dayDigest_22 : decode cX6_dayDigest 22 = .ok (.iconst 0, 1) := by decide +kernel
theorem dX6_dayDigest_23 : decode cX6_dayDigest 23 = .ok (.invokevirtual 197, 3) := by decide +kernel
theorem dX6_dayDigest_26 : decode cX6_dayDigest 26 = .ok (.i2l, 1) := by decide +kernel
theorem dX6_dayDigest_27 : decode cX6_dayDigest 27 = .ok (.ladd, 1) := by decide +kernel
theorem dX6_dayDigest_28 : decode cX6_dayDigest 28 = .ok (.lstore 4, 2) := by decide +kernel
theorem dX6_dayDigest_30 : decode cX6_dayDigest 30 = .ok (.ldc2_w 312, 3) := by decide +kernel
theorem dX6_dayDigest_33 : decode cX6_dayDigest 33 = .ok (.lload 4, 2) := by decide +kernel
theorem dX6_dayDigest_35 : decode cX6_dayDigest 35 = .ok (.lmul, 1) := by decide +kernel
theorem dX6_dayDigest_36 : decode cX6_dayDigest 36 = .ok (.aload_n 0, 1) := by decide +kernel
theorem dX6_dayDigest_37 : decode cX6_dayDigest 37 = .ok (.iload_n 3, 1) := by decide +kernel
theorem dX6_dayDigest_38 : decode cX6_dayDigest 38 = .ok (.iconst 1, 1) := by decide +kernel
theorem dX6_dayDigest_39 : decode cX6_dayDigest 39 = .ok (.invokevirtual 197, 3) := by decide +kernel
theorem dX6_dayDigest_42 : decode cX6_dayDigest 42 = .ok (.i2l, 1) := by decide +kernel
theorem dX6_dayDigest_43 : decode cX6_dayDigest 43 = .ok (.ladd, 1) := by decide +kernel
theorem dX6_dayDigest_44 : decode cX6_dayDigest 44 = .ok (.lstore 4, 2) := by decide +kernel
theorem dX6_dayDigest_46 : decode cX6_dayDigest 46 = .ok (.ldc2_w 312, 3) := by decide +kernel
theorem dX6_dayDigest_49 : decode cX6_dayDigest 49 = .ok (.lload 4, 2) := by decide +kernel
theorem dX6_dayDigest_51 : decode cX6_dayDigest 51 = .ok (.lmul, 1) := by decide +kernel
theorem dX6_dayDigest_52 : decode cX6_dayDigest 52 = .ok (.aload_n 0, 1) := by decide +kernel
theorem dX6_dayDigest_53 : decode cX6_dayDigest 53 = .ok (.iload_n 3, 1) := by decide +kernel
theorem dX6_dayDigest_54 : decode cX6_dayDigest 54 = .ok (.invokevirtual 200, 3) := by decide +kernel
theorem dX6_dayDigest_57 : decode cX6_dayDigest 57 = .ok (.i2l, 1) := by decide +kernel
theorem dX6_dayDigest_58 : decode cX6_dayDigest 58 = .ok (.ladd, 1) := by decide +kernel
theorem dX6_dayDigest_59 : decode cX6_dayDigest 59 = .ok (.lreturn, 1) := by decide +kernel
theorem dX6_digest_0 : decode cX6_digest 0 = .ok (.ldc2_w 314, 3) := by decide +kernel
theorem dX6_digest_3 : decode cX6_digest 3 = .ok (.lstore_n 1, 1) := by decide +kernel
theorem dX6_digest_4 : decode cX6_digest 4 = .ok (.iconst 0, 1) := by decide +kernel
theorem dX6_digest_5 : decode cX6_digest 5 = .ok (.istore_n 3, 1) := by decide +kernel
theorem dX6_digest_6 : decode cX6_digest 6 = .ok (.iload_n 3, 1) := by decide +kernel
theorem dX6_digest_7 : decode cX6_digest 7 = .ok (.bipush 8, 2) := by decide +kernel
theorem dX6_digest_9 : decode cX6_digest 9 = .ok (.if_icmp .ge 22, 3) := by decide +kernel
theorem dX6_digest_12 : decode cX6_digest 12 = .ok (.ldc2_w 312, 3) := by decide +kernel
theorem dX6_digest_15 : decode cX6_digest 15 = .ok (.lload_n 1, 1) := by decide +kernel
theorem dX6_digest_16 : decode cX6_digest 16 = .ok (.lmul, 1) := by decide +kernel
theorem dX6_digest_17 : decode cX6_digest 17 = .ok (.aload_n 0, 1) := by decide +kernel
theorem dX6_digest_18 : decode cX6_digest 18 = .ok (.iload_n 3, 1) := by decide +kernel
theorem dX6_digest_19 : decode cX6_digest 19 = .ok (.invokevirtual 316, 3) := by decide +kernel
theorem dX6_digest_22 : decode cX6_digest 22 = .ok (.i2l, 1) := by decide +kernel
theorem dX6_digest_23 : decode cX6_digest 23 = .ok (.ladd, 1) := by decide +kernel
theorem dX6_digest_24 : decode cX6_digest 24 = .ok (.lstore_n 1, 1) := by decide +kernel
theorem dX6_digest_25 : decode cX6_digest 25 = .ok (.iinc 3 1, 3) := by decide +kernel
theorem dX6_digest_28 : decode cX6_digest 28 = .ok (.goto (-22), 3) := by decide +kernel
theorem dX6_digest_31 : decode cX6_digest 31 = .ok (.ldc2_w 312, 3) := by decide +kernel
theorem dX6_digest_34 : decode cX6_digest 34 = .ok (.lload_n 1, 1) := by decide +kernel
theorem dX6_digest_35 : decode cX6_digest 35 = .ok (.lmul, 1) := by decide +kernel
theorem dX6_digest_36 : decode cX6_digest 36 = .ok (.aload_n 0, 1) := by decide +kernel
theorem dX6_digest_37 : decode cX6_digest 37 = .ok (.invokevirtual 120, 3) := by decide +kernel
theorem dX6_digest_40 : decode cX6_digest 40 = .ok (.i2l, 1) := by decide +kernel
theorem dX6_digest_41 : decode cX6_digest 41 = .ok (.ladd, 1) := by decide +kernel
theorem dX6_digest_42 : decode cX6_digest 42 = .ok (.lstore_n 1, 1) := by decide +kernel
theorem dX6_digest_43 : decode cX6_digest 43 = .ok (.iconst 0, 1) := by decide +kernel
theorem dX6_digest_44 : decode cX6_digest 44 = .ok (.istore_n 3, 1) := by decide +kernel
theorem dX6_digest_45 : decode cX6_digest 45 = .ok (.iload_n 3, 1) := by decide +kernel
theorem dX6_digest_46 : decode cX6_digest 46 = .ok (.aload_n 0, 1) := by decide +kernel
theorem dX6_digest_47 : decode cX6_digest 47 = .ok (.getfield 114, 3) := by decide +kernel
theorem dX6_digest_50 : decode cX6_digest 50 = .ok (.if_icmp .ge 16, 3) := by decide +kernel
theorem dX6_digest_53 : decode cX6_digest 53 = .ok (.aload_n 0, 1) := by decide +kernel
theorem dX6_digest_54 : decode cX6_digest 54 = .ok (.lload_n 1, 1) := by decide +kernel
theorem dX6_digest_55 : decode cX6_digest 55 = .ok (.iload_n 3, 1) := by decide +kernel
theorem dX6_digest_56 : decode cX6_digest 56 = .ok (.invokevirtual 319, 3) := by decide +kernel
theorem dX6_digest_59 : decode cX6_digest 59 = .ok (.lstore_n 1, 1) := by decide +kernel
theorem dX6_digest_60 : decode cX6_digest 60 = .ok (.iinc 3 1, 3) := by decide +kernel
theorem dX6_digest_63 : decode cX6_digest 63 = .ok (.goto (-18), 3) := by decide +kernel
theorem dX6_digest_66 : decode cX6_digest 66 = .ok (.aload_n 0, 1) := by decide +kernel
theorem dX6_digest_67 : decode cX6_digest 67 = .ok (.lload_n 1, 1) := by decide +kernel
theorem dX6_digest_68 : decode cX6_digest 68 = .ok (.iconst 0, 1) := by decide +kernel
theorem dX6_digest_69 : decode cX6_digest 69 = .ok (.invokevirtual 323, 3) := by decide +kernel
theorem dX6_digest_72 : decode cX6_digest 72 = .ok (.lstore_n 1, 1) := by decide +kernel
theorem dX6_digest_73 : decode cX6_digest 73 = .ok (.aload_n 0, 1) := by decide +kernel
theorem dX6_digest_74 : decode cX6_digest 74 = .ok (.lload_n 1, 1) := by decide +kernel
theorem dX6_digest_75 : decode cX6_digest 75 = .ok (.iconst 1, 1) := by decide +kernel
theorem dX6_digest_76 : decode cX6_digest 76 = .ok (.invokevirtual 323, 3) := by decide +kernel
theorem dX6_digest_79 : decode cX6_digest 79 = .ok (.lstore_n 1, 1) := by decide +kernel
theorem dX6_digest_80 : decode cX6_digest 80 = .ok (.aload_n 0, 1) := by decide +kernel
theorem dX6_digest_81 : decode cX6_digest 81 = .ok (.lload_n 1, 1) := by decide +kernel
theorem dX6_digest_82 : decode cX6_digest 82 = .ok (.bipush 6, 2) := by decide +kernel
theorem dX6_digest_84 : decode cX6_digest 84 = .ok (.invokevirtual 323, 3) := by decide +kernel
theorem dX6_digest_87 : decode cX6_digest 87 = .ok (.lstore_n 1, 1) := by decide +kernel
theorem dX6_digest_88 : decode cX6_digest 88 = .ok (.aload_n 0, 1) := by decide +kernel
theorem dX6_digest_89 : decode cX6_digest 89 = .ok (.lload_n 1, 1) := by decide +kernel
theorem dX6_digest_90 : decode cX6_digest 90 = .ok (.bipush 20, 2) := by decide +kernel
theorem dX6_digest_92 : decode cX6_digest 92 = .ok (.invokevirtual 323, 3) := by decide +kernel
theorem dX6_digest_95 : decode cX6_digest 95 = .ok (.lstore_n 1, 1) := by decide +kernel
theorem dX6_digest_96 : decode cX6_digest 96 = .ok (.aload_n 0, 1) := by decide +kernel
theorem dX6_digest_97 : decode cX6_digest 97 = .ok (.lload_n 1, 1) := by decide +kernel
theorem dX6_digest_98 : decode cX6_digest 98 = .ok (.bipush 39, 2) := by decide +kernel
theorem dX6_digest_100 : decode cX6_digest 100 = .ok (.invokevirtual 323, 3) := by decide +kernel
theorem dX6_digest_103 : decode cX6_digest 103 = .ok (.lstore_n 1, 1) := by decide +kernel
theorem dX6_digest_104 : decode cX6_digest 104 = .ok (.ldc2_w 312, 3) := by decide +kernel
theorem dX6_digest_107 : decode cX6_digest 107 = .ok (.lload_n 1, 1) := by decide +kernel
theorem dX6_digest_108 : decode cX6_digest 108 = .ok (.lmul, 1) := by decide +kernel
theorem dX6_digest_109 : decode cX6_digest 109 = .ok (.aload_n 0, 1) := by decide +kernel
theorem dX6_digest_110 : decode cX6_digest 110 = .ok (.invokevirtual 203, 3) := by decide +kernel
theorem dX6_digest_113 : decode cX6_digest 113 = .ok (.i2l, 1) := by decide +kernel
theorem dX6_digest_114 : decode cX6_digest 114 = .ok (.ladd, 1) := by decide +kernel
theorem dX6_digest_115 : decode cX6_digest 115 = .ok (.lstore_n 1, 1) := by decide +kernel
theorem dX6_digest_116 : decode cX6_digest 116 = .ok (.ldc2_w 312, 3) := by decide +kernel
theorem dX6_digest_119 : decode cX6_digest 119 = .ok (.lload_n 1, 1) := by decide +kernel
theorem dX6_digest_120 : decode cX6_digest 120 = .ok (.lmul, 1) := by decide +kernel
theorem dX6_digest_121 : decode cX6_digest 121 = .ok (.aload_n 0, 1) := by decide +kernel
theorem dX6_digest_122 : decode cX6_digest 122 = .ok (.invokevirtual 206, 3) := by decide +kernel
theorem dX6_digest_125 : decode cX6_digest 125 = .ok (.i2l, 1) := by decide +kernel
theorem dX6_digest_126 : decode cX6_digest 126 = .ok (.ladd, 1) := by decide +kernel
theorem dX6_digest_127 : decode cX6_digest 127 = .ok (.lstore_n 1, 1) := by decide +kernel
theorem dX6_digest_128 : decode cX6_digest 128 = .ok (.iconst 0, 1) := by decide +kernel
theorem dX6_digest_129 : decode cX6_digest 129 = .ok (.istore_n 3, 1) := by decide +kernel
theorem dX6_digest_130 : decode cX6_digest 130 = .ok (.iload_n 3, 1) := by decide +kernel
theorem dX6_digest_131 : decode cX6_digest 131 = .ok (.aload_n 0, 1) := by decide +kernel
theorem dX6_digest_132 : decode cX6_digest 132 = .ok (.getfield 16, 3) := by decide +kernel
theorem dX6_digest_135 : decode cX6_digest 135 = .ok (.iconst 3, 1) := by decide +kernel
theorem dX6_digest_136 : decode cX6_digest 136 = .ok (.iaload, 1) := by decide +kernel
theorem dX6_digest_137 : decode cX6_digest 137 = .ok (.if_icmp .ge 22, 3) := by decide +kernel
theorem dX6_digest_140 : decode cX6_digest 140 = .ok (.ldc2_w 312, 3) := by decide +kernel
theorem dX6_digest_143 : decode cX6_digest 143 = .ok (.lload_n 1, 1) := by decide +kernel
theorem dX6_digest_144 : decode cX6_digest 144 = .ok (.lmul, 1) := by decide +kernel
theorem dX6_digest_145 : decode cX6_digest 145 = .ok (.aload_n 0, 1) := by decide +kernel
theorem dX6_digest_146 : decode cX6_digest 146 = .ok (.iload_n 3, 1) := by decide +kernel
theorem dX6_digest_147 : decode cX6_digest 147 = .ok (.invokevirtual 215, 3) := by decide +kernel
theorem dX6_digest_150 : decode cX6_digest 150 = .ok (.i2l, 1) := by decide +kernel
theorem dX6_digest_151 : decode cX6_digest 151 = .ok (.ladd, 1) := by decide +kernel
theorem dX6_digest_152 : decode cX6_digest 152 = .ok (.lstore_n 1, 1) := by decide +kernel
theorem dX6_digest_153 : decode cX6_digest 153 = .ok (.iinc 3 1, 3) := by decide +kernel
theorem dX6_digest_156 : decode cX6_digest 156 = .ok (.goto (-26), 3) := by decide +kernel
theorem dX6_digest_159 : decode cX6_digest 159 = .ok (.ldc2_w 312, 3) := by decide +kernel
theorem dX6_digest_162 : decode cX6_digest 162 = .ok (.lload_n 1, 1) := by decide +kernel
theorem dX6_digest_163 : decode cX6_digest 163 = .ok (.lmul, 1) := by decide +kernel
theorem dX6_digest_164 : decode cX6_digest 164 = .ok (.aload_n 0, 1) := by decide +kernel
theorem dX6_digest_165 : decode cX6_digest 165 = .ok (.iconst 0, 1) := by decide +kernel
theorem dX6_digest_166 : decode cX6_digest 166 = .ok (.invokevirtual 218, 3) := by decide +kernel
theorem dX6_digest_169 : decode cX6_digest 169 = .ok (.i2l, 1) := by decide +kernel
theorem dX6_digest_170 : decode cX6_digest 170 = .ok (.ladd, 1) := by decide +kernel
theorem dX6_digest_171 : decode cX6_digest 171 = .ok (.lstore_n 1, 1) := by decide +kernel
theorem dX6_digest_172 : decode cX6_digest 172 = .ok (.ldc2_w 312, 3) := by decide +kernel
theorem dX6_digest_175 : decode cX6_digest 175 = .ok (.lload_n 1, 1) := by decide +kernel
theorem dX6_digest_176 : decode cX6_digest 176 = .ok (.lmul, 1) := by decide +kernel
theorem dX6_digest_177 : decode cX6_digest 177 = .ok (.aload_n 0, 1) := by decide +kernel
theorem dX6_digest_178 : decode cX6_digest 178 = .ok (.iconst 1, 1) := by decide +kernel
theorem dX6_digest_179 : decode cX6_digest 179 = .ok (.invokevirtual 218, 3) := by decide +kernel
theorem dX6_digest_182 : decode cX6_digest 182 = .ok (.i2l, 1) := by decide +kernel
theorem dX6_digest_183 : decode cX6_digest 183 = .ok (.ladd, 1) := by decide +kernel
theorem dX6_digest_184 : decode cX6_digest 184 = .ok (.lstore_n 1, 1) := by decide +kernel
theorem dX6_digest_185 : decode cX6_digest 185 = .ok (.ldc2_w 312, 3) := by decide +kernel
theorem dX6_digest_188 : decode cX6_digest 188 = .ok (.lload_n 1, 1) := by decide +kernel
theorem dX6_digest_189 : decode cX6_digest 189 = .ok (.lmul, 1) := by decide +kernel
theorem dX6_digest_190 : decode cX6_digest 190 = .ok (.aload_n 0, 1) := by decide +kernel
theorem dX6_digest_191 : decode cX6_digest 191 = .ok (.iconst 2, 1) := by decide +kernel
theorem dX6_digest_192 : decode cX6_digest 192 = .ok (.iconst (-1), 1) := by decide +kernel
theorem dX6_digest_193 : decode cX6_digest 193 = .ok (.invokevirtual 235, 3) := by decide +kernel
theorem dX6_digest_196 : decode cX6_digest 196 = .ok (.i2l, 1) := by decide +kernel
theorem dX6_digest_197 : decode cX6_digest 197 = .ok (.ladd, 1) := by decide +kernel
theorem dX6_digest_198 : decode cX6_digest 198 = .ok (.lstore_n 1, 1) := by decide +kernel
theorem dX6_digest_199 : decode cX6_digest 199 = .ok (.ldc2_w 312, 3) := by decide +kernel
theorem dX6_digest_202 : decode cX6_digest 202 = .ok (.lload_n 1, 1) := by decide +kernel
theorem dX6_digest_203 : decode cX6_digest 203 = .ok (.lmul, 1) := by decide +kernel
theorem dX6_digest_204 : decode cX6_digest 204 = .ok (.aload_n 0, 1) := by decide +kernel
theorem dX6_digest_205 : decode cX6_digest 205 = .ok (.iconst 2, 1) := by decide +kernel
theorem dX6_digest_206 : decode cX6_digest 206 = .ok (.iconst 0, 1) := by decide +kernel
theorem dX6_digest_207 : decode cX6_digest 207 = .ok (.invokevirtual 235, 3) := by decide +kernel
theorem dX6_digest_210 : decode cX6_digest 210 = .ok (.i2l, 1) := by decide +kernel
theorem dX6_digest_211 : decode cX6_digest 211 = .ok (.ladd, 1) := by decide +kernel
theorem dX6_digest_212 : decode cX6_digest 212 = .ok (.lstore_n 1, 1) := by decide +kernel
theorem dX6_digest_213 : decode cX6_digest 213 = .ok (.ldc2_w 312, 3) := by decide +kernel
theorem dX6_digest_216 : decode cX6_digest 216 = .ok (.lload_n 1, 1) := by decide +kernel
theorem dX6_digest_217 : decode cX6_digest 217 = .ok (.lmul, 1) := by decide +kernel
theorem dX6_digest_218 : decode cX6_digest 218 = .ok (.aload_n 0, 1) := by decide +kernel
theorem dX6_digest_219 : decode cX6_digest 219 = .ok (.iconst 2, 1) := by decide +kernel
theorem dX6_digest_220 : decode cX6_digest 220 = .ok (.iconst (-1), 1) := by decide +kernel
theorem dX6_digest_221 : decode cX6_digest 221 = .ok (.invokevirtual 241, 3) := by decide +kernel
theorem dX6_digest_224 : decode cX6_digest 224 = .ok (.i2l, 1) := by decide +kernel
theorem dX6_digest_225 : decode cX6_digest 225 = .ok (.ladd, 1) := by decide +kernel
theorem dX6_digest_226 : decode cX6_digest 226 = .ok (.lstore_n 1, 1) := by decide +kernel
theorem dX6_digest_227 : decode cX6_digest 227 = .ok (.ldc2_w 312, 3) := by decide +kernel
theorem dX6_digest_230 : decode cX6_digest 230 = .ok (.lload_n 1, 1) := by decide +kernel
theorem dX6_digest_231 : decode cX6_digest 231 = .ok (.lmul, 1) := by decide +kernel
theorem dX6_digest_232 : decode cX6_digest 232 = .ok (.aload_n 0, 1) := by decide +kernel
theorem dX6_digest_233 : decode cX6_digest 233 = .ok (.iconst 2, 1) := by decide +kernel
theorem dX6_digest_234 : decode cX6_digest 234 = .ok (.iconst 0, 1) := by decide +kernel
theorem dX6_digest_235 : decode cX6_digest 235 = .ok (.invokevirtual 241, 3) := by decide +kernel
theorem dX6_digest_238 : decode cX6_digest 238 = .ok (.i2l, 1) := by decide +kernel
theorem dX6_digest_239 : decode cX6_digest 239 = .ok (.ladd, 1) := by decide +kernel
theorem dX6_digest_240 : decode cX6_digest 240 = .ok (.lstore_n 1, 1) := by decide +kernel
theorem dX6_digest_241 : decode cX6_digest 241 = .ok (.ldc2_w 312, 3) := by decide +kernel
theorem dX6_digest_244 : decode cX6_digest 244 = .ok (.lload_n 1, 1) := by decide +kernel
theorem dX6_digest_245 : decode cX6_digest 245 = .ok (.lmul, 1) := by decide +kernel
theorem dX6_digest_246 : decode cX6_digest 246 = .ok (.aload_n 0, 1) := by decide +kernel
theorem dX6_digest_247 : decode cX6_digest 247 = .ok (.iconst 4, 1) := by decide +kernel
theorem dX6_digest_248 : decode cX6_digest 248 = .ok (.iconst 2, 1) := by decide +kernel
theorem dX6_digest_249 : decode cX6_digest 249 = .ok (.iconst 0, 1) := by decide +kernel
theorem dX6_digest_250 : decode cX6_digest 250 = .ok (.invokevirtual 257, 3) := by decide +kernel
theorem dX6_digest_253 : decode cX6_digest 253 = .ok (.i2l, 1) := by decide +kernel
theorem dX6_digest_254 : decode cX6_digest 254 = .ok (.ladd, 1) := by decide +kernel
theorem dX6_digest_255 : decode cX6_digest 255 = .ok (.lstore_n 1, 1) := by decide +kernel
theorem dX6_digest_256 : decode cX6_digest 256 = .ok (.ldc2_w 312, 3) := by decide +kernel
theorem dX6_digest_259 : decode cX6_digest 259 = .ok (.lload_n 1, 1) := by decide +kernel
theorem dX6_digest_260 : decode cX6_digest 260 = .ok (.lmul, 1) := by decide +kernel
theorem dX6_digest_261 : decode cX6_digest 261 = .ok (.aload_n 0, 1) := by decide +kernel
theorem dX6_digest_262 : decode cX6_digest 262 = .ok (.iconst 4, 1) := by decide +kernel
theorem dX6_digest_263 : decode cX6_digest 263 = .ok (.iconst 2, 1) := by decide +kernel
theorem dX6_digest_264 : decode cX6_digest 264 = .ok (.iconst 1, 1) := by decide +kernel
theorem dX6_digest_265 : decode cX6_digest 265 = .ok (.invokevirtual 257, 3) := by decide +kernel
theorem dX6_digest_268 : decode cX6_digest 268 = .ok (.i2l, 1) := by decide +kernel
theorem dX6_digest_269 : decode cX6_digest 269 = .ok (.ladd, 1) := by decide +kernel
theorem dX6_digest_270 : decode cX6_digest 270 = .ok (.lstore_n 1, 1) := by decide +kernel
theorem dX6_digest_271 : decode cX6_digest 271 = .ok (.ldc2_w 312, 3) := by decide +kernel
theorem dX6_digest_274 : decode cX6_digest 274 = .ok (.lload_n 1, 1) := by decide +kernel
theorem dX6_digest_275 : decode cX6_digest 275 = .ok (.lmul, 1) := by decide +kernel
theorem dX6_digest_276 : decode cX6_digest 276 = .ok (.aload_n 0, 1) := by decide +kernel
theorem dX6_digest_277 : decode cX6_digest 277 = .ok (.iconst (-1), 1) := by decide +kernel
theorem dX6_digest_278 : decode cX6_digest 278 = .ok (.invokevirtual 272, 3) := by decide +kernel
theorem dX6_digest_281 : decode cX6_digest 281 = .ok (.i2l, 1) := by decide +kernel
theorem dX6_digest_282 : decode cX6_digest 282 = .ok (.ladd, 1) := by decide +kernel
theorem dX6_digest_283 : decode cX6_digest 283 = .ok (.lstore_n 1, 1) := by decide +kernel
theorem dX6_digest_284 : decode cX6_digest 284 = .ok (.ldc2_w 312, 3) := by decide +kernel
theorem dX6_digest_287 : decode cX6_digest 287 = .ok (.lload_n 1, 1) := by decide +kernel
theorem dX6_digest_288 : decode cX6_digest 288 = .ok (.lmul, 1) := by decide +kernel
theorem dX6_digest_289 : decode cX6_digest 289 = .ok (.aload_n 0, 1) := by decide +kernel
theorem dX6_digest_290 : decode cX6_digest 290 = .ok (.iconst 0, 1) := by decide +kernel
theorem dX6_digest_291 : decode cX6_digest 291 = .ok (.invokevirtual 272, 3) := by decide +kernel
theorem dX6_digest_294 : decode cX6_digest 294 = .ok (.i2l, 1) := by decide +kernel
theorem dX6_digest_295 : decode cX6_digest 295 = .ok (.ladd, 1) := by decide +kernel
theorem dX6_digest_296 : decode cX6_digest 296 = .ok (.lstore_n 1, 1) := by decide +kernel
theorem dX6_digest_297 : decode cX6_digest 297 = .ok (.ldc2_w 312, 3) := by decide +kernel
theorem dX6_digest_300 : decode cX6_digest 300 = .ok (.lload_n 1, 1) := by decide +kernel
theorem dX6_digest_301 : decode cX6_digest 301 = .ok (.lmul, 1) := by decide +kernel
theorem dX6_digest_302 : decode cX6_digest 302 = .ok (.aload_n 0, 1) := by decide +kernel
theorem dX6_digest_303 : decode cX6_digest 303 = .ok (.invokevirtual 275, 3) := by decide +kernel
theorem dX6_digest_306 : decode cX6_digest 306 = .ok (.i2l, 1) := by decide +kernel
theorem dX6_digest_307 : decode cX6_digest 307 = .ok (.ladd, 1) := by decide +kernel
theorem dX6_digest_308 : decode cX6_digest 308 = .ok (.lstore_n 1, 1) := by decide +kernel
theorem dX6_digest_309 : decode cX6_digest 309 = .ok (.ldc2_w 312, 3) := by decide +kernel
theorem dX6_digest_312 : decode cX6_digest 312 = .ok (.lload_n 1, 1) := by decide +kernel
theorem dX6_digest_313 : decode cX6_digest 313 = .ok (.lmul, 1) := by decide +kernel
theorem dX6_digest_314 : decode cX6_digest 314 = .ok (.aload_n 0, 1) := by decide +kernel
theorem dX6_digest_315 : decode cX6_digest 315 = .ok (.invokevirtual 278, 3) := by decide +kernel
theorem dX6_digest_318 : decode cX6_digest 318 = .ok (.i2l, 1) := by decide +kernel
theorem dX6_digest_319 : decode cX6_digest 319 = .ok (.ladd, 1) := by decide +kernel
theorem dX6_digest_320 : decode cX6_digest 320 = .ok (.lstore_n 1, 1) := by decide +kernel
theorem dX6_digest_321 : decode cX6_digest 321 = .ok (.ldc2_w 312, 3) := by decide +kernel
theorem dX6_digest_324 : decode cX6_digest 324 = .ok (.lload_n 1, 1) := by decide +kernel
theorem dX6_digest_325 : decode cX6_digest 325 = .ok (.lmul, 1) := by decide +kernel
theorem dX6_digest_326 : decode cX6_digest 326 = .ok (.aload_n 0, 1) := by decide +kernel
theorem dX6_digest_327 : decode cX6_digest 327 = .ok (.bipush 7, 2) := by decide +kernel
theorem dX6_digest_329 : decode cX6_digest 329 = .ok (.bipush 30, 2) := by decide +kernel
theorem dX6_digest_331 : decode cX6_digest 331 = .ok (.iconst 0, 1) := by decide +kernel
theorem dX6_digest_332 : decode cX6_digest 332 = .ok (.invokevirtual 299, 3) := by decide +kernel
theorem dX6_digest_335 : decode cX6_digest 335 = .ok (.i2l, 1) := by decide +kernel
theorem dX6_digest_336 : decode cX6_digest 336 = .ok (.ladd, 1) := by decide +kernel
theorem dX6_digest_337 : decode cX6_digest 337 = .ok (.lstore_n 1, 1) := by decide +kernel
theorem dX6_digest_338 : decode cX6_digest 338 = .ok (.ldc2_w 312, 3) := by decide +kernel
theorem dX6_digest_341 : decode cX6_digest 341 = .ok (.lload_n 1, 1) := by decide +kernel
theorem dX6_digest_342 : decode cX6_digest 342 = .ok (.lmul, 1) := by decide +kernel
theorem dX6_digest_343 : decode cX6_digest 343 = .ok (.aload_n 0, 1) := by decide +kernel
theorem dX6_digest_344 : decode cX6_digest 344 = .ok (.bipush 7, 2) := by decide +kernel
theorem dX6_digest_346 : decode cX6_digest 346 = .ok (.bipush 30, 2) := by decide +kernel
theorem dX6_digest_348 : decode cX6_digest 348 = .ok (.iconst 1, 1) := by decide +kernel
theorem dX6_digest_349 : decode cX6_digest 349 = .ok (.invokevirtual 299, 3) := by decide +kernel
theorem dX6_digest_352 : decode cX6_digest 352 = .ok (.i2l, 1) := by decide +kernel
theorem dX6_digest_353 : decode cX6_digest 353 = .ok (.ladd, 1) := by decide +kernel
theorem dX6_digest_354 : decode cX6_digest 354 = .ok (.lreturn, 1) := by decide +kernel
end
section
theorem dL_law_0 : decode cL_law 0 = .ok (.new 7, 3) := by decide +kernel
theorem dL_law_3 : decode cL_law 3 = .ok (.dup, 1) := by decide +kernel
theorem dL_law_4 : decode cL_law 4 = .ok (.invokespecial 9, 3) := by decide +kernel
theorem dL_law_7 : decode cL_law 7 = .ok (.astore_n 1, 1) := by decide +kernel
theorem dL_law_8 : decode cL_law 8 = .ok (.new 10, 3) := by decide +kernel
theorem dL_law_11 : decode cL_law 11 = .ok (.dup, 1) := by decide +kernel
theorem dL_law_12 : decode cL_law 12 = .ok (.invokespecial 12, 3) := by decide +kernel
theorem dL_law_15 : decode cL_law 15 = .ok (.astore_n 2, 1) := by decide +kernel
theorem dL_law_16 : decode cL_law 16 = .ok (.iconst 0, 1) := by decide +kernel
theorem dL_law_17 : decode cL_law 17 = .ok (.istore_n 3, 1) := by decide +kernel
theorem dL_law_18 : decode cL_law 18 = .ok (.iload_n 3, 1) := by decide +kernel
theorem dL_law_19 : decode cL_law 19 = .ok (.aload_n 0, 1) := by decide +kernel
theorem dL_law_20 : decode cL_law 20 = .ok (.arraylength, 1) := by decide +kernel
theorem dL_law_21 : decode cL_law 21 = .ok (.bipush 6, 2) := by decide +kernel
theorem dL_law_23 : decode cL_law 23 = .ok (.isub, 1) := by decide +kernel
theorem dL_law_24 : decode cL_law 24 = .ok (.if_icmp .gt 1456, 3) := by decide +kernel
theorem dL_law_27 : decode cL_law 27 = .ok (.aload_n 0, 1) := by decide +kernel
theorem dL_law_28 : decode cL_law 28 = .ok (.iload_n 3, 1) := by decide +kernel
theorem dL_law_29 : decode cL_law 29 = .ok (.iaload, 1) := by decide +kernel
theorem dL_law_30 : decode cL_law 30 = .ok (.bipush 63, 2) := by decide +kernel
theorem dL_law_32 : decode cL_law 32 = .ok (.iand, 1) := by decide +kernel
theorem dL_law_33 : decode cL_law 33 = .ok (.tableswitch 1441 0 41 #[183, 206, 219, 232, 245, 278, 311, 344, 367, 400, 443, 476, 499, 522, 545, 578, 601, 614, 627, 650, 673, 696, 739, 792, 825, 858, 901, 934, 977, 1000, 1023, 1036, 1049, 1113, 1156, 1199, 1222, 1275, 1318, 1381, 1404, 1427], 183) := by decide +kernel
theorem dL_law_216 : decode cL_law 216 = .ok (.aload_n 1, 1) := by decide +kernel
theorem dL_law_217 : decode cL_law 217 = .ok (.aload_n 0, 1) := by decide +kernel
theorem dL_law_218 : decode cL_law 218 = .ok (.iload_n 3, 1) := by decide +kernel
theorem dL_law_219 : decode cL_law 219 = .ok (.iconst 1, 1) := by decide +kernel
theorem dL_law_220 : decode cL_law 220 = .ok (.iadd, 1) := by decide +kernel
theorem dL_law_221 : decode cL_law 221 = .ok (.iaload, 1) := by decide +kernel
theorem dL_law_222 : decode cL_law 222 = .ok (.invokevirtual 13, 3) := by decide +kernel
theorem dL_law_225 : decode cL_law 225 = .ok (.aload_n 2, 1) := by decide +kernel
theorem dL_law_226 : decode cL_law 226 = .ok (.aload_n 0, 1) := by decide +kernel
theorem dL_law_227 : decode cL_law 227 = .ok (.iload_n 3, 1) := by decide +kernel
theorem dL_law_228 : decode cL_law 228 = .ok (.iconst 1, 1) := by decide +kernel
theorem dL_law_229 : decode cL_law 229 = .ok (.iadd, 1) := by decide +kernel
theorem dL_law_230 : decode cL_law 230 = .ok (.iaload, 1) := by decide +kernel
theorem dL_law_231 : decode cL_law 231 = .ok (.invokevirtual 17, 3) := by decide +kernel
theorem dL_law_234 : decode cL_law 234 = .ok (.if_icmp .eq 1240, 3) := by decide +kernel
theorem dL_law_237 : decode cL_law 237 = .ok (.iconst 0, 1) := by decide +kernel
theorem dL_law_238 : decode cL_law 238 = .ok (.ireturn, 1) := by decide +kernel
theorem dL_law_239 : decode cL_law 239 = .ok (.aload_n 1, 1) := by decide +kernel
theorem dL_law_240 : decode cL_law 240 = .ok (.invokevirtual 18, 3) := by decide +kernel
theorem dL_law_243 : decode cL_law 243 = .ok (.aload_n 2, 1) := by decide +kernel
theorem dL_law_244 : decode cL_law 244 = .ok (.invokevirtual 22, 3) := by decide +kernel
theorem dL_law_247 : decode cL_law 247 = .ok (.if_icmp .eq 1227, 3) := by decide +kernel
theorem dL_law_250 : decode cL_law 250 = .ok (.iconst 0, 1) := by decide +kernel
theorem dL_law_251 : decode cL_law 251 = .ok (.ireturn, 1) := by decide +kernel
theorem dL_law_252 : decode cL_law 252 = .ok (.aload_n 1, 1) := by decide +kernel
theorem dL_law_253 : decode cL_law 253 = .ok (.invokevirtual 23, 3) := by decide +kernel
theorem dL_law_256 : decode cL_law 256 = .ok (.aload_n 2, 1) := by decide +kernel
theorem dL_law_257 : decode cL_law 257 = .ok (.invokevirtual 26, 3) := by decide +kernel
theorem dL_law_260 : decode cL_law 260 = .ok (.if_icmp .eq 1214, 3) := by decide +kernel
theorem dL_law_263 : decode cL_law 263 = .ok (.iconst 0, 1) := by decide +kernel
theorem dL_law_264 : decode cL_law 264 = .ok (.ireturn, 1) := by decide +kernel
theorem dL_law_265 : decode cL_law 265 = .ok (.aload_n 1, 1) := by decide +kernel
theorem dL_law_266 : decode cL_law 266 = .ok (.invokevirtual 27, 3) := by decide +kernel
theorem dL_law_269 : decode cL_law 269 = .ok (.aload_n 2, 1) := by decide +kernel
theorem dL_law_270 : decode cL_law 270 = .ok (.invokevirtual 30, 3) := by decide +kernel
theorem dL_law_273 : decode cL_law 273 = .ok (.if_icmp .eq 1201, 3) := by decide +kernel
theorem dL_law_276 : decode cL_law 276 = .ok (.iconst 0, 1) := by decide +kernel
theorem dL_law_277 : decode cL_law 277 = .ok (.ireturn, 1) := by decide +kernel
theorem dL_law_278 : decode cL_law 278 = .ok (.aload_n 1, 1) := by decide +kernel
theorem dL_law_279 : decode cL_law 279 = .ok (.aload_n 0, 1) := by decide +kernel
theorem dL_law_280 : decode cL_law 280 = .ok (.iload_n 3, 1) := by decide +kernel
theorem dL_law_281 : decode cL_law 281 = .ok (.iconst 1, 1) := by decide +kernel
theorem dL_law_282 : decode cL_law 282 = .ok (.iadd, 1) := by decide +kernel
theorem dL_law_283 : decode cL_law 283 = .ok (.iaload, 1) := by decide +kernel
theorem dL_law_284 : decode cL_law 284 = .ok (.aload_n 0, 1) := by decide +kernel
theorem dL_law_285 : decode cL_law 285 = .ok (.iload_n 3, 1) := by decide +kernel
theorem dL_law_286 : decode cL_law 286 = .ok (.iconst 2, 1) := by decide +kernel
theorem dL_law_287 : decode cL_law 287 = .ok (.iadd, 1) := by decide +kernel
theorem dL_law_288 : decode cL_law 288 = .ok (.iaload, 1) := by decide +kernel
theorem dL_law_289 : decode cL_law 289 = .ok (.invokevirtual 31, 3) := by decide +kernel
theorem dL_law_292 : decode cL_law 292 = .ok (.aload_n 2, 1) := by decide +kernel
theorem dL_law_293 : decode cL_law 293 = .ok (.aload_n 0, 1) := by decide +kernel
theorem dL_law_294 : decode cL_law 294 = .ok (.iload_n 3, 1) := by decide +kernel
theorem dL_law_295 : decode cL_law 295 = .ok (.iconst 1, 1) := by decide +kernel
theorem dL_law_296 : decode cL_law 296 = .ok (.iadd, 1) := by decide +kernel
theorem dL_law_297 : decode cL_law 297 = .ok (.iaload, 1) := by decide +kernel
theorem dL_law_298 : decode cL_law 298 = .ok (.aload_n 0, 1) := by decide +kernel
theorem dL_law_299 : decode cL_law 299 = .ok (.iload_n 3, 1) := by decide +kernel
theorem dL_law_300 : decode cL_law 300 = .ok (.iconst 2, 1) := by decide +kernel
theorem dL_law_301 : decode cL_law 301 = .ok (.iadd, 1) := by decide +kernel
theorem dL_law_302 : decode cL_law 302 = .ok (.iaload, 1) := by decide +kernel
theorem dL_law_303 : decode cL_law 303 = .ok (.invokevirtual 35, 3) := by decide +kernel
theorem dL_law_306 : decode cL_law 306 = .ok (.if_icmp .eq 1168, 3) := by decide +kernel
theorem dL_law_309 : decode cL_law 309 = .ok (.iconst 0, 1) := by decide +kernel
theorem dL_law_310 : decode cL_law 310 = .ok (.ireturn, 1) := by decide +kernel
theorem dL_law_311 : decode cL_law 311 = .ok (.aload_n 1, 1) := by decide +kernel
theorem dL_law_312 : decode cL_law 312 = .ok (.aload_n 0, 1) := by decide +kernel
theorem dL_law_313 : decode cL_law 313 = .ok (.iload_n 3, 1) := by decide +kernel
theorem dL_law_314 : decode cL_law 314 = .ok (.iconst 1, 1) := by decide +kernel
theorem dL_law_315 : decode cL_law 315 = .ok (.iadd, 1) := by decide +kernel
theorem dL_law_316 : decode cL_law 316 = .ok (.iaload, 1) := by decide +kernel
theorem dL_law_317 : decode cL_law 317 = .ok (.aload_n 0, 1) := by decide +kernel
theorem dL_law_318 : decode cL_law 318 = .ok (.iload_n 3, 1) := by decide +kernel
theorem dL_law_319 : decode cL_law 319 = .ok (.iconst 2, 1) := by decide +kernel
theorem dL_law_320 : decode cL_law 320 = .ok (.iadd, 1) := by decide +kernel
theorem dL_law_321 : decode cL_law 321 = .ok (.iaload, 1) := by decide +kernel
theorem dL_law_322 : decode cL_law 322 = .ok (.invokevirtual 36, 3) := by decide +kernel
theorem dL_law_325 : decode cL_law 325 = .ok (.aload_n 2, 1) := by decide +kernel
theorem dL_law_326 : decode cL_law 326 = .ok (.aload_n 0, 1) := by decide +kernel
theorem dL_law_327 : decode cL_law 327 = .ok (.iload_n 3, 1) := by decide +kernel
theorem dL_law_328 : decode cL_law 328 = .ok (.iconst 1, 1) := by decide +kernel
theorem dL_law_329 : decode cL_law 329 = .ok (.iadd, 1) := by decide +kernel
theorem dL_law_330 : decode cL_law 330 = .ok (.iaload, 1) := by decide +kernel
theorem dL_law_331 : decode cL_law 331 = .ok (.aload_n 0, 1) := by decide +kernel
theorem dL_law_332 : decode cL_law 332 = .ok (.iload_n 3, 1) := by decide +kernel
theorem dL_law_333 : decode cL_law 333 = .ok (.iconst 2, 1) := by decide +kernel
theorem dL_law_334 : decode cL_law 334 = .ok (.iadd, 1) := by decide +kernel
theorem dL_law_335 : decode cL_law 335 = .ok (.iaload, 1) := by decide +kernel
theorem dL_law_336 : decode cL_law 336 = .ok (.invokevirtual 39, 3) := by decide +kernel
theorem dL_law_339 : decode cL_law 339 = .ok (.if_icmp .eq 1135, 3) := by decide +kernel
theorem dL_law_342 : decode cL_law 342 = .ok (.iconst 0, 1) := by decide +kernel
theorem dL_law_343 : decode cL_law 343 = .ok (.ireturn, 1) := by decide +kernel
theorem dL_law_344 : decode cL_law 344 = .ok (.aload_n 1, 1) := by decide +kernel
theorem dL_law_345 : decode cL_law 345 = .ok (.aload_n 0, 1) := by decide +kernel
theorem dL_law_346 : decode cL_law 346 = .ok (.iload_n 3, 1) := by decide +kernel
theorem dL_law_347 : decode cL_law 347 = .ok (.iconst 1, 1) := by decide +kernel
theorem dL_law_348 : decode cL_law 348 = .ok (.iadd, 1) := by decide +kernel
theorem dL_law_349 : decode cL_law 349 = .ok (.iaload, 1) := by decide +kernel
theorem dL_law_350 : decode cL_law 350 = .ok (.aload_n 0, 1) := by decide +kernel
theorem dL_law_351 : decode cL_law 351 = .ok (.iload_n 3, 1) := by decide +kernel
theorem dL_law_352 : decode cL_law 352 = .ok (.iconst 2, 1) := by decide +kernel
theorem dL_law_353 : decode cL_law 353 = .ok (.iadd, 1) := by decide +kernel
theorem dL_law_354 : decode cL_law 354 = .ok (.iaload, 1) := by decide +kernel
theorem dL_law_355 : decode cL_law 355 = .ok (.invokevirtual 40, 3) := by decide +kernel
theorem dL_law_358 : decode cL_law 358 = .ok (.aload_n 2, 1) := by decide +kernel
theorem dL_law_359 : decode cL_law 359 = .ok (.aload_n 0, 1) := by decide +kernel
theorem dL_law_360 : decode cL_law 360 = .ok (.iload_n 3, 1) := by decide +kernel
theorem dL_law_361 : decode cL_law 361 = .ok (.iconst 1, 1) := by decide +kernel
theorem dL_law_362 : decode cL_law 362 = .ok (.iadd, 1) := by decide +kernel
theorem dL_law_363 : decode cL_law 363 = .ok (.iaload, 1) := by decide +kernel
theorem dL_law_364 : decode cL_law 364 = .ok (.aload_n 0, 1) := by decide +kernel
theorem dL_law_365 : decode cL_law 365 = .ok (.iload_n 3, 1) := by decide +kernel
theorem dL_law_366 : decode cL_law 366 = .ok (.iconst 2, 1) := by decide +kernel
theorem dL_law_367 : decode cL_law 367 = .ok (.iadd, 1) := by decide +kernel
theorem dL_law_368 : decode cL_law 368 = .ok (.iaload, 1) := by decide +kernel
theorem dL_law_369 : decode cL_law 369 = .ok (.invokevirtual 43, 3) := by decide +kernel
theorem dL_law_372 : decode cL_law 372 = .ok (.if_icmp .eq 1102, 3) := by decide +kernel
theorem dL_law_375 : decode cL_law 375 = .ok (.iconst 0, 1) := by decide +kernel
theorem dL_law_376 : decode cL_law 376 = .ok (.ireturn, 1) := by decide +kernel
theorem dL_law_377 : decode cL_law 377 = .ok (.aload_n 1, 1) := by decide +kernel
theorem dL_law_378 : decode cL_law 378 = .ok (.aload_n 0, 1) := by decide +kernel
theorem dL_law_379 : decode cL_law 379 = .ok (.iload_n 3, 1) := by decide +kernel
theorem dL_law_380 : decode cL_law 380 = .ok (.iconst 1, 1) := by decide +kernel
theorem dL_law_381 : decode cL_law 381 = .ok (.iadd, 1) := by decide +kernel
theorem dL_law_382 : decode cL_law 382 = .ok (.iaload, 1) := by decide +kernel
theorem dL_law_383 : decode cL_law 383 = .ok (.invokevirtual 44, 3) := by decide +kernel
theorem dL_law_386 : decode cL_law 386 = .ok (.aload_n 2, 1) := by decide +kernel
theorem dL_law_387 : decode cL_law 387 = .ok (.aload_n 0, 1) := by decide +kernel
theorem dL_law_388 : decode cL_law 388 = .ok (.iload_n 3, 1) := by decide +kernel
theorem dL_law_389 : decode cL_law 389 = .ok (.iconst 1, 1) := by decide +kernel
theorem dL_law_390 : decode cL_law 390 = .ok (.iadd, 1) := by decide +kernel
theorem dL_law_391 : decode cL_law 391 = .ok (.iaload, 1) := by decide +kernel
theorem dL_law_392 : decode cL_law 392 = .ok (.invokevirtual 47, 3) := by decide +kernel
theorem dL_law_395 : decode cL_law 395 = .ok (.if_icmp .eq 1079, 3) := by decide +kernel
theorem dL_law_398 : decode cL_law 398 = .ok (.iconst 0, 1) := by decide +kernel
theorem dL_law_399 : decode cL_law 399 = .ok (.ireturn, 1) := by decide +kernel
theorem dL_law_400 : decode cL_law 400 = .ok (.aload_n 1, 1) := by decide +kernel
theorem dL_law_401 : decode cL_law 401 = .ok (.aload_n 0, 1) := by decide +kernel
theorem dL_law_402 : decode cL_law 402 = .ok (.iload_n 3, 1) := by decide +kernel
theorem dL_law_403 : decode cL_law 403 = .ok (.iconst 1, 1) := by decide +kernel
theorem dL_law_404 : decode cL_law 404 = .ok (.iadd, 1) := by decide +kernel
theorem dL_law_405 : decode cL_law 405 = .ok (.iaload, 1) := by decide +kernel
theorem dL_law_406 : decode cL_law 406 = .ok (.aload_n 0, 1) := by decide +kernel
theorem dL_law_407 : decode cL_law 407 = .ok (.iload_n 3, 1) := by decide +kernel
theorem dL_law_408 : decode cL_law 408 = .ok (.iconst 2, 1) := by decide +kernel
theorem dL_law_409 : decode cL_law 409 = .ok (.iadd, 1) := by decide +kernel
theorem dL_law_410 : decode cL_law 410 = .ok (.iaload, 1) := by decide +kernel
theorem dL_law_411 : decode cL_law 411 = .ok (.invokevirtual 48, 3) := by decide +kernel
theorem dL_law_414 : decode cL_law 414 = .ok (.aload_n 2, 1) := by decide +kernel
theorem dL_law_415 : decode cL_law 415 = .ok (.aload_n 0, 1) := by decide +kernel
theorem dL_law_416 : decode cL_law 416 = .ok (.iload_n 3, 1) := by decide +kernel
theorem dL_law_417 : decode cL_law 417 = .ok (.iconst 1, 1) := by decide +kernel
theorem dL_law_418 : decode cL_law 418 = .ok (.iadd, 1) := by decide +kernel
theorem dL_law_419 : decode cL_law 419 = .ok (.iaload, 1) := by decide +kernel
theorem dL_law_420 : decode cL_law 420 = .ok (.aload_n 0, 1) := by decide +kernel
theorem dL_law_421 : decode cL_law 421 = .ok (.iload_n 3, 1) := by decide +kernel
theorem dL_law_422 : decode cL_law 422 = .ok (.iconst 2, 1) := by decide +kernel
theorem dL_law_423 : decode cL_law 423 = .ok (.iadd, 1) := by decide +kernel
theorem dL_law_424 : decode cL_law 424 = .ok (.iaload, 1) := by decide +kernel
theorem dL_law_425 : decode cL_law 425 = .ok (.invokevirtual 51, 3) := by decide +kernel
theorem dL_law_428 : decode cL_law 428 = .ok (.if_icmp .eq 1046, 3) := by decide +kernel
theorem dL_law_431 : decode cL_law 431 = .ok (.iconst 0, 1) := by decide +kernel
theorem dL_law_432 : decode cL_law 432 = .ok (.ireturn, 1) := by decide +kernel
theorem dL_law_433 : decode cL_law 433 = .ok (.aload_n 1, 1) := by decide +kernel
theorem dL_law_434 : decode cL_law 434 = .ok (.aload_n 0, 1) := by decide +kernel
theorem dL_law_435 : decode cL_law 435 = .ok (.iload_n 3, 1) := by decide +kernel
theorem dL_law_436 : decode cL_law 436 = .ok (.iconst 1, 1) := by decide +kernel
theorem dL_law_437 : decode cL_law 437 = .ok (.iadd, 1) := by decide +kernel
theorem dL_law_438 : decode cL_law 438 = .ok (.iaload, 1) := by decide +kernel
theorem dL_law_439 : decode cL_law 439 = .ok (.aload_n 0, 1) := by decide +kernel
theorem dL_law_440 : decode cL_law 440 = .ok (.iload_n 3, 1) := by decide +kernel
theorem dL_law_441 : decode cL_law 441 = .ok (.iconst 2, 1) := by decide +kernel
theorem dL_law_442 : decode cL_law 442 = .ok (.iadd, 1) := by decide +kernel
theorem dL_law_443 : decode cL_law 443 = .ok (.iaload, 1) := by decide +kernel
theorem dL_law_444 : decode cL_law 444 = .ok (.aload_n 0, 1) := by decide +kernel
theorem dL_law_445 : decode cL_law 445 = .ok (.iload_n 3, 1) := by decide +kernel
theorem dL_law_446 : decode cL_law 446 = .ok (.iconst 3, 1) := by decide +kernel
theorem dL_law_447 : decode cL_law 447 = .ok (.iadd, 1) := by decide +kernel
theorem dL_law_448 : decode cL_law 448 = .ok (.iaload, 1) := by decide +kernel
theorem dL_law_449 : decode cL_law 449 = .ok (.invokevirtual 52, 3) := by decide +kernel
theorem dL_law_452 : decode cL_law 452 = .ok (.aload_n 2, 1) := by decide +kernel
theorem dL_law_453 : decode cL_law 453 = .ok (.aload_n 0, 1) := by decide +kernel
theorem dL_law_454 : decode cL_law 454 = .ok (.iload_n 3, 1) := by decide +kernel
theorem dL_law_455 : decode cL_law 455 = .ok (.iconst 1, 1) := by decide +kernel
theorem dL_law_456 : decode cL_law 456 = .ok (.iadd, 1) := by decide +kernel
theorem dL_law_457 : decode cL_law 457 = .ok (.iaload, 1) := by decide +kernel
theorem dL_law_458 : decode cL_law 458 = .ok (.aload_n 0, 1) := by decide +kernel
theorem dL_law_459 : decode cL_law 459 = .ok (.iload_n 3, 1) := by decide +kernel
theorem dL_law_460 : decode cL_law 460 = .ok (.iconst 2, 1) := by decide +kernel
theorem dL_law_461 : decode cL_law 461 = .ok (.iadd, 1) := by decide +kernel
theorem dL_law_462 : decode cL_law 462 = .ok (.iaload, 1) := by decide +kernel
theorem dL_law_463 : decode cL_law 463 = .ok (.aload_n 0, 1) := by decide +kernel
theorem dL_law_464 : decode cL_law 464 = .ok (.iload_n 3, 1) := by decide +kernel
theorem dL_law_465 : decode cL_law 465 = .ok (.iconst 3, 1) := by decide +kernel
theorem dL_law_466 : decode cL_law 466 = .ok (.iadd, 1) := by decide +kernel
theorem dL_law_467 : decode cL_law 467 = .ok (.iaload, 1) := by decide +kernel
theorem dL_law_468 : decode cL_law 468 = .ok (.invokevirtual 56, 3) := by decide +kernel
theorem dL_law_471 : decode cL_law 471 = .ok (.if_icmp .eq 1003, 3) := by decide +kernel
theorem dL_law_474 : decode cL_law 474 = .ok (.iconst 0, 1) := by decide +kernel
theorem dL_law_475 : decode cL_law 475 = .ok (.ireturn, 1) := by decide +kernel
theorem dL_law_476 : decode cL_law 476 = .ok (.aload_n 1, 1) := by decide +kernel
theorem dL_law_477 : decode cL_law 477 = .ok (.aload_n 0, 1) := by decide +kernel
theorem dL_law_478 : decode cL_law 478 = .ok (.iload_n 3, 1) := by decide +kernel
theorem dL_law_479 : decode cL_law 479 = .ok (.iconst 1, 1) := by decide +kernel
theorem dL_law_480 : decode cL_law 480 = .ok (.iadd, 1) := by decide +kernel
theorem dL_law_481 : decode cL_law 481 = .ok (.iaload, 1) := by decide +kernel
theorem dL_law_482 : decode cL_law 482 = .ok (.aload_n 0, 1) := by decide +kernel
theorem dL_law_483 : decode cL_law 483 = .ok (.iload_n 3, 1) := by decide +kernel
theorem dL_law_484 : decode cL_law 484 = .ok (.iconst 2, 1) := by decide +kernel
theorem dL_law_485 : decode cL_law 485 = .ok (.iadd, 1) := by decide +kernel
theorem dL_law_486 : decode cL_law 486 = .ok (.iaload, 1) := by decide +kernel
theorem dL_law_487 : decode cL_law 487 = .ok (.invokevirtual 57, 3) := by decide +kernel
theorem dL_law_490 : decode cL_law 490 = .ok (.aload_n 2, 1) := by decide +kernel
theorem dL_law_491 : decode cL_law 491 = .ok (.aload_n 0, 1) := by decide +kernel
theorem dL_law_492 : decode cL_law 492 = .ok (.iload_n 3, 1) := by decide +kernel
theorem dL_law_493 : decode cL_law 493 = .ok (.iconst 1, 1) := by decide +kernel
theorem dL_law_494 : decode cL_law 494 = .ok (.iadd, 1) := by decide +kernel
theorem dL_law_495 : decode cL_law 495 = .ok (.iaload, 1) := by decide +kernel
theorem dL_law_496 : decode cL_law 496 = .ok (.aload_n 0, 1) := by decide +kernel
theorem dL_law_497 : decode cL_law 497 = .ok (.iload_n 3, 1) := by decide +kernel
theorem dL_law_498 : decode cL_law 498 = .ok (.iconst 2, 1) := by decide +kernel
theorem dL_law_499 : decode cL_law 499 = .ok (.iadd, 1) := by decide +kernel
theorem dL_law_500 : decode cL_law 500 = .ok (.iaload, 1) := by decide +kernel
theorem dL_law_501 : decode cL_law 501 = .ok (.invokevirtual 60, 3) := by decide +kernel
theorem dL_law_504 : decode cL_law 504 = .ok (.if_icmp .eq 970, 3) := by decide +kernel
theorem dL_law_507 : decode cL_law 507 = .ok (.iconst 0, 1) := by decide +kernel
theorem dL_law_508 : decode cL_law 508 = .ok (.ireturn, 1) := by decide +kernel
theorem dL_law_509 : decode cL_law 509 = .ok (.aload_n 1, 1) := by decide +kernel
theorem dL_law_510 : decode cL_law 510 = .ok (.aload_n 0, 1) := by decide +kernel
theorem dL_law_511 : decode cL_law 511 = .ok (.iload_n 3, 1) := by decide +kernel
theorem dL_law_512 : decode cL_law 512 = .ok (.iconst 1, 1) := by decide +kernel
theorem dL_law_513 : decode cL_law 513 = .ok (.iadd, 1) := by decide +kernel
theorem dL_law_514 : decode cL_law 514 = .ok (.iaload, 1) := by decide +kernel
theorem dL_law_515 : decode cL_law 515 = .ok (.invokevirtual 61, 3) := by decide +kernel
theorem dL_law_518 : decode cL_law 518 = .ok (.aload_n 2, 1) := by decide +kernel
theorem dL_law_519 : decode cL_law 519 = .ok (.aload_n 0, 1) := by decide +kernel
theorem dL_law_520 : decode cL_law 520 = .ok (.iload_n 3, 1) := by decide +kernel
theorem dL_law_521 : decode cL_law 521 = .ok (.iconst 1, 1) := by decide +kernel
theorem dL_law_522 : decode cL_law 522 = .ok (.iadd, 1) := by decide +kernel
theorem dL_law_523 : decode cL_law 523 = .ok (.iaload, 1) := by decide +kernel
theorem dL_law_524 : decode cL_law 524 = .ok (.invokevirtual 64, 3) := by decide +kernel
theorem dL_law_527 : decode cL_law 527 = .ok (.if_icmp .eq 947, 3) := by decide +kernel
theorem dL_law_530 : decode cL_law 530 = .ok (.iconst 0, 1) := by decide +kernel
theorem dL_law_531 : decode cL_law 531 = .ok (.ireturn, 1) := by decide +kernel
theorem dL_law_532 : decode cL_law 532 = .ok (.aload_n 1, 1) := by decide +kernel
theorem dL_law_533 : decode cL_law 533 = .ok (.aload_n 0, 1) := by decide +kernel
theorem dL_law_534 : decode cL_law 534 = .ok (.iload_n 3, 1) := by decide +kernel
theorem dL_law_535 : decode cL_law 535 = .ok (.iconst 1, 1) := by decide +kernel
theorem dL_law_536 : decode cL_law 536 = .ok (.iadd, 1) := by decide +kernel
theorem dL_law_537 : decode cL_law 537 = .ok (.iaload, 1) := by decide +kernel
theorem dL_law_538 : decode cL_law 538 = .ok (.invokevirtual 65, 3) := by decide +kernel
theorem dL_law_541 : decode cL_law 541 = .ok (.aload_n 2, 1) := by decide +kernel
theorem dL_law_542 : decode cL_law 542 = .ok (.aload_n 0, 1) := by decide +kernel
theorem dL_law_543 : decode cL_law 543 = .ok (.iload_n 3, 1) := by decide +kernel
theorem dL_law_544 : decode cL_law 544 = .ok (.iconst 1, 1) := by decide +kernel
theorem dL_law_545 : decode cL_law 545 = .ok (.iadd, 1) := by decide +kernel
theorem dL_law_546 : decode cL_law 546 = .ok (.iaload, 1) := by decide +kernel
theorem dL_law_547 : decode cL_law 547 = .ok (.invokevirtual 68, 3) := by decide +kernel
theorem dL_law_550 : decode cL_law 550 = .ok (.if_icmp .eq 924, 3) := by decide +kernel
theorem dL_law_553 : decode cL_law 553 = .ok (.iconst 0, 1) := by decide +kernel
theorem dL_law_554 : decode cL_law 554 = .ok (.ireturn, 1) := by decide +kernel
theorem dL_law_555 : decode cL_law 555 = .ok (.aload_n 1, 1) := by decide +kernel
theorem dL_law_556 : decode cL_law 556 = .ok (.aload_n 0, 1) := by decide +kernel
theorem dL_law_557 : decode cL_law 557 = .ok (.iload_n 3, 1) := by decide +kernel
theorem dL_law_558 : decode cL_law 558 = .ok (.iconst 1, 1) := by decide +kernel
theorem dL_law_559 : decode cL_law 559 = .ok (.iadd, 1) := by decide +kernel
theorem dL_law_560 : decode cL_law 560 = .ok (.iaload, 1) := by decide +kernel
theorem dL_law_561 : decode cL_law 561 = .ok (.invokevirtual 69, 3) := by decide +kernel
theorem dL_law_564 : decode cL_law 564 = .ok (.aload_n 2, 1) := by decide +kernel
theorem dL_law_565 : decode cL_law 565 = .ok (.aload_n 0, 1) := by decide +kernel
theorem dL_law_566 : decode cL_law 566 = .ok (.iload_n 3, 1) := by decide +kernel
theorem dL_law_567 : decode cL_law 567 = .ok (.iconst 1, 1) := by decide +kernel
theorem dL_law_568 : decode cL_law 568 = .ok (.iadd, 1) := by decide +kernel
theorem dL_law_569 : decode cL_law 569 = .ok (.iaload, 1) := by decide +kernel
theorem dL_law_570 : decode cL_law 570 = .ok (.invokevirtual 72, 3) := by decide +kernel
theorem dL_law_573 : decode cL_law 573 = .ok (.if_icmp .eq 901, 3) := by decide +kernel
theorem dL_law_576 : decode cL_law 576 = .ok (.iconst 0, 1) := by decide +kernel
theorem dL_law_577 : decode cL_law 577 = .ok (.ireturn, 1) := by decide +kernel
theorem dL_law_578 : decode cL_law 578 = .ok (.aload_n 1, 1) := by decide +kernel
theorem dL_law_579 : decode cL_law 579 = .ok (.aload_n 0, 1) := by decide +kernel
theorem dL_law_580 : decode cL_law 580 = .ok (.iload_n 3, 1) := by decide +kernel
theorem dL_law_581 : decode cL_law 581 = .ok (.iconst 1, 1) := by decide +kernel
theorem dL_law_582 : decode cL_law 582 = .ok (.iadd, 1) := by decide +kernel
theorem dL_law_583 : decode cL_law 583 = .ok (.iaload, 1) := by decide +kernel
theorem dL_law_584 : decode cL_law 584 = .ok (.aload_n 0, 1) := by decide +kernel
theorem dL_law_585 : decode cL_law 585 = .ok (.iload_n 3, 1) := by decide +kernel
theorem dL_law_586 : decode cL_law 586 = .ok (.iconst 2, 1) := by decide +kernel
theorem dL_law_587 : decode cL_law 587 = .ok (.iadd, 1) := by decide +kernel
theorem dL_law_588 : decode cL_law 588 = .ok (.iaload, 1) := by decide +kernel
theorem dL_law_589 : decode cL_law 589 = .ok (.invokevirtual 73, 3) := by decide +kernel
theorem dL_law_592 : decode cL_law 592 = .ok (.aload_n 2, 1) := by decide +kernel
theorem dL_law_593 : decode cL_law 593 = .ok (.aload_n 0, 1) := by decide +kernel
theorem dL_law_594 : decode cL_law 594 = .ok (.iload_n 3, 1) := by decide +kernel
theorem dL_law_595 : decode cL_law 595 = .ok (.iconst 1, 1) := by decide +kernel
theorem dL_law_596 : decode cL_law 596 = .ok (.iadd, 1) := by decide +kernel
theorem dL_law_597 : decode cL_law 597 = .ok (.iaload, 1) := by decide +kernel
theorem dL_law_598 : decode cL_law 598 = .ok (.aload_n 0, 1) := by decide +kernel
theorem dL_law_599 : decode cL_law 599 = .ok (.iload_n 3, 1) := by decide +kernel
theorem dL_law_600 : decode cL_law 600 = .ok (.iconst 2, 1) := by decide +kernel
theorem dL_law_601 : decode cL_law 601 = .ok (.iadd, 1) := by decide +kernel
theorem dL_law_602 : decode cL_law 602 = .ok (.iaload, 1) := by decide +kernel
theorem dL_law_603 : decode cL_law 603 = .ok (.invokevirtual 76, 3) := by decide +kernel
theorem dL_law_606 : decode cL_law 606 = .ok (.if_icmp .eq 868, 3) := by decide +kernel
theorem dL_law_609 : decode cL_law 609 = .ok (.iconst 0, 1) := by decide +kernel
theorem dL_law_610 : decode cL_law 610 = .ok (.ireturn, 1) := by decide +kernel
theorem dL_law_611 : decode cL_law 611 = .ok (.aload_n 1, 1) := by decide +kernel
theorem dL_law_612 : decode cL_law 612 = .ok (.aload_n 0, 1) := by decide +kernel
theorem dL_law_613 : decode cL_law 613 = .ok (.iload_n 3, 1) := by decide +kernel
theorem dL_law_614 : decode cL_law 614 = .ok (.iconst 1, 1) := by decide +kernel
theorem dL_law_615 : decode cL_law 615 = .ok (.iadd, 1) := by decide +kernel
theorem dL_law_616 : decode cL_law 616 = .ok (.iaload, 1) := by decide +kernel
theorem dL_law_617 : decode cL_law 617 = .ok (.invokevirtual 77, 3) := by decide +kernel
theorem dL_law_620 : decode cL_law 620 = .ok (.aload_n 2, 1) := by decide +kernel
theorem dL_law_621 : decode cL_law 621 = .ok (.aload_n 0, 1) := by decide +kernel
theorem dL_law_622 : decode cL_law 622 = .ok (.iload_n 3, 1) := by decide +kernel
theorem dL_law_623 : decode cL_law 623 = .ok (.iconst 1, 1) := by decide +kernel
theorem dL_law_624 : decode cL_law 624 = .ok (.iadd, 1) := by decide +kernel
theorem dL_law_625 : decode cL_law 625 = .ok (.iaload, 1) := by decide +kernel
theorem dL_law_626 : decode cL_law 626 = .ok (.invokevirtual 80, 3) := by decide +kernel
theorem dL_law_629 : decode cL_law 629 = .ok (.if_icmp .eq 845, 3) := by decide +kernel
theorem dL_law_632 : decode cL_law 632 = .ok (.iconst 0, 1) := by decide +kernel
theorem dL_law_633 : decode cL_law 633 = .ok (.ireturn, 1) := by decide +kernel
theorem dL_law_634 : decode cL_law 634 = .ok (.aload_n 1, 1) := by decide +kernel
theorem dL_law_635 : decode cL_law 635 = .ok (.invokevirtual 81, 3) := by decide +kernel
theorem dL_law_638 : decode cL_law 638 = .ok (.aload_n 2, 1) := by decide +kernel
theorem dL_law_639 : decode cL_law 639 = .ok (.invokevirtual 84, 3) := by decide +kernel
theorem dL_law_642 : decode cL_law 642 = .ok (.if_icmp .eq 832, 3) := by decide +kernel
theorem dL_law_645 : decode cL_law 645 = .ok (.iconst 0, 1) := by decide +kernel
theorem dL_law_646 : decode cL_law 646 = .ok (.ireturn, 1) := by decide +kernel
theorem dL_law_647 : decode cL_law 647 = .ok (.aload_n 1, 1) := by decide +kernel
theorem dL_law_648 : decode cL_law 648 = .ok (.invokevirtual 85, 3) := by decide +kernel
theorem dL_law_651 : decode cL_law 651 = .ok (.aload_n 2, 1) := by decide +kernel
theorem dL_law_652 : decode cL_law 652 = .ok (.invokevirtual 88, 3) := by decide +kernel
theorem dL_law_655 : decode cL_law 655 = .ok (.if_icmp .eq 819, 3) := by decide +kernel
theorem dL_law_658 : decode cL_law 658 = .ok (.iconst 0, 1) := by decide +kernel
theorem dL_law_659 : decode cL_law 659 = .ok (.ireturn, 1) := by decide +kernel
theorem dL_law_660 : decode cL_law 660 = .ok (.aload_n 1, 1) := by decide +kernel
theorem dL_law_661 : decode cL_law 661 = .ok (.aload_n 0, 1) := by decide +kernel
theorem dL_law_662 : decode cL_law 662 = .ok (.iload_n 3, 1) := by decide +kernel
theorem dL_law_663 : decode cL_law 663 = .ok (.iconst 1, 1) := by decide +kernel
theorem dL_law_664 : decode cL_law 664 = .ok (.iadd, 1) := by decide +kernel
theorem dL_law_665 : decode cL_law 665 = .ok (.iaload, 1) := by decide +kernel
theorem dL_law_666 : decode cL_law 666 = .ok (.invokevirtual 89, 3) := by decide +kernel
theorem dL_law_669 : decode cL_law 669 = .ok (.aload_n 2, 1) := by decide +kernel
theorem dL_law_670 : decode cL_law 670 = .ok (.aload_n 0, 1) := by decide +kernel
theorem dL_law_671 : decode cL_law 671 = .ok (.iload_n 3, 1) := by decide +kernel
theorem dL_law_672 : decode cL_law 672 = .ok (.iconst 1, 1) := by decide +kernel
theorem dL_law_673 : decode cL_law 673 = .ok (.iadd, 1) := by decide +kernel
theorem dL_law_674 : decode cL_law 674 = .ok (.iaload, 1) := by decide +kernel
theorem dL_law_675 : decode cL_law 675 = .ok (.invokevirtual 92, 3) := by decide +kernel
theorem dL_law_678 : decode cL_law 678 = .ok (.if_icmp .eq 796, 3) := by decide +kernel
theorem dL_law_681 : decode cL_law 681 = .ok (.iconst 0, 1) := by decide +kernel
theorem dL_law_682 : decode cL_law 682 = .ok (.ireturn, 1) := by decide +kernel
theorem dL_law_683 : decode cL_law 683 = .ok (.aload_n 1, 1) := by decide +kernel
theorem dL_law_684 : decode cL_law 684 = .ok (.aload_n 0, 1) := by decide +kernel
theorem dL_law_685 : decode cL_law 685 = .ok (.iload_n 3, 1) := by decide +kernel
theorem dL_law_686 : decode cL_law 686 = .ok (.iconst 1, 1) := by decide +kernel
theorem dL_law_687 : decode cL_law 687 = .ok (.iadd, 1) := by decide +kernel
theorem dL_law_688 : decode cL_law 688 = .ok (.iaload, 1) := by decide +kernel
theorem dL_law_689 : decode cL_law 689 = .ok (.invokevirtual 93, 3) := by decide +kernel
theorem dL_law_692 : decode cL_law 692 = .ok (.aload_n 2, 1) := by decide +kernel
theorem dL_law_693 : decode cL_law 693 = .ok (.aload_n 0, 1) := by decide +kernel
theorem dL_law_694 : decode cL_law 694 = .ok (.iload_n 3, 1) := by decide +kernel
theorem dL_law_695 : decode cL_law 695 = .ok (.iconst 1, 1) := by decide +kernel
theorem dL_law_696 : decode cL_law 696 = .ok (.iadd, 1) := by decide +kernel
theorem dL_law_697 : decode cL_law 697 = .ok (.iaload, 1) := by decide +kernel
theorem dL_law_698 : decode cL_law 698 = .ok (.invokevirtual 96, 3) := by decide +kernel
theorem dL_law_701 : decode cL_law 701 = .ok (.if_icmp .eq 773, 3) := by decide +kernel
theorem dL_law_704 : decode cL_law 704 = .ok (.iconst 0, 1) := by decide +kernel
theorem dL_law_705 : decode cL_law 705 = .ok (.ireturn, 1) := by decide +kernel
theorem dL_law_706 : decode cL_law 706 = .ok (.aload_n 1, 1) := by decide +kernel
theorem dL_law_707 : decode cL_law 707 = .ok (.aload_n 0, 1) := by decide +kernel
theorem dL_law_708 : decode cL_law 708 = .ok (.iload_n 3, 1) := by decide +kernel
theorem dL_law_709 : decode cL_law 709 = .ok (.iconst 1, 1) := by decide +kernel
theorem dL_law_710 : decode cL_law 710 = .ok (.iadd, 1) := by decide +kernel
theorem dL_law_711 : decode cL_law 711 = .ok (.iaload, 1) := by decide +kernel
theorem dL_law_712 : decode cL_law 712 = .ok (.invokevirtual 97, 3) := by decide +kernel
theorem dL_law_715 : decode cL_law 715 = .ok (.aload_n 2, 1) := by decide +kernel
theorem dL_law_716 : decode cL_law 716 = .ok (.aload_n 0, 1) := by decide +kernel
theorem dL_law_717 : decode cL_law 717 = .ok (.iload_n 3, 1) := by decide +kernel
theorem dL_law_718 : decode cL_law 718 = .ok (.iconst 1, 1) := by decide +kernel
theorem dL_law_719 : decode cL_law 719 = .ok (.iadd, 1) := by decide +kernel
theorem dL_law_720 : decode cL_law 720 = .ok (.iaload, 1) := by decide +kernel
theorem dL_law_721 : decode cL_law 721 = .ok (.invokevirtual 100, 3) := by decide +kernel
theorem dL_law_724 : decode cL_law 724 = .ok (.if_icmp .eq 750, 3) := by decide +kernel
theorem dL_law_727 : decode cL_law 727 = .ok (.iconst 0, 1) := by decide +kernel
theorem dL_law_728 : decode cL_law 728 = .ok (.ireturn, 1) := by decide +kernel
theorem dL_law_729 : decode cL_law 729 = .ok (.aload_n 1, 1) := by decide +kernel
theorem dL_law_730 : decode cL_law 730 = .ok (.aload_n 0, 1) := by decide +kernel
theorem dL_law_731 : decode cL_law 731 = .ok (.iload_n 3, 1) := by decide +kernel
theorem dL_law_732 : decode cL_law 732 = .ok (.iconst 1, 1) := by decide +kernel
theorem dL_law_733 : decode cL_law 733 = .ok (.iadd, 1) := by decide +kernel
theorem dL_law_734 : decode cL_law 734 = .ok (.iaload, 1) := by decide +kernel
theorem dL_law_735 : decode cL_law 735 = .ok (.aload_n 0, 1) := by decide +kernel
theorem dL_law_736 : decode cL_law 736 = .ok (.iload_n 3, 1) := by decide +kernel
theorem dL_law_737 : decode cL_law 737 = .ok (.iconst 2, 1) := by decide +kernel
theorem dL_law_738 : decode cL_law 738 = .ok (.iadd, 1) := by decide +kernel
theorem dL_law_739 : decode cL_law 739 = .ok (.iaload, 1) := by decide +kernel
theorem dL_law_740 : decode cL_law 740 = .ok (.aload_n 0, 1) := by decide +kernel
theorem dL_law_741 : decode cL_law 741 = .ok (.iload_n 3, 1) := by decide +kernel
theorem dL_law_742 : decode cL_law 742 = .ok (.iconst 3, 1) := by decide +kernel
theorem dL_law_743 : decode cL_law 743 = .ok (.iadd, 1) := by decide +kernel
theorem dL_law_744 : decode cL_law 744 = .ok (.iaload, 1) := by decide +kernel
theorem dL_law_745 : decode cL_law 745 = .ok (.invokevirtual 101, 3) := by decide +kernel
theorem dL_law_748 : decode cL_law 748 = .ok (.aload_n 2, 1) := by decide +kernel
theorem dL_law_749 : decode cL_law 749 = .ok (.aload_n 0, 1) := by decide +kernel
theorem dL_law_750 : decode cL_law 750 = .ok (.iload_n 3, 1) := by decide +kernel
theorem dL_law_751 : decode cL_law 751 = .ok (.iconst 1, 1) := by decide +kernel
theorem dL_law_752 : decode cL_law 752 = .ok (.iadd, 1) := by decide +kernel
theorem dL_law_753 : decode cL_law 753 = .ok (.iaload, 1) := by decide +kernel
theorem dL_law_754 : decode cL_law 754 = .ok (.aload_n 0, 1) := by decide +kernel
theorem dL_law_755 : decode cL_law 755 = .ok (.iload_n 3, 1) := by decide +kernel
theorem dL_law_756 : decode cL_law 756 = .ok (.iconst 2, 1) := by decide +kernel
theorem dL_law_757 : decode cL_law 757 = .ok (.iadd, 1) := by decide +kernel
theorem dL_law_758 : decode cL_law 758 = .ok (.iaload, 1) := by decide +kernel
theorem dL_law_759 : decode cL_law 759 = .ok (.aload_n 0, 1) := by decide +kernel
theorem dL_law_760 : decode cL_law 760 = .ok (.iload_n 3, 1) := by decide +kernel
theorem dL_law_761 : decode cL_law 761 = .ok (.iconst 3, 1) := by decide +kernel
theorem dL_law_762 : decode cL_law 762 = .ok (.iadd, 1) := by decide +kernel
theorem dL_law_763 : decode cL_law 763 = .ok (.iaload, 1) := by decide +kernel
theorem dL_law_764 : decode cL_law 764 = .ok (.invokevirtual 104, 3) := by decide +kernel
theorem dL_law_767 : decode cL_law 767 = .ok (.if_icmp .eq 707, 3) := by decide +kernel
theorem dL_law_770 : decode cL_law 770 = .ok (.iconst 0, 1) := by decide +kernel
theorem dL_law_771 : decode cL_law 771 = .ok (.ireturn, 1) := by decide +kernel
theorem dL_law_772 : decode cL_law 772 = .ok (.aload_n 1, 1) := by decide +kernel
theorem dL_law_773 : decode cL_law 773 = .ok (.aload_n 0, 1) := by decide +kernel
theorem dL_law_774 : decode cL_law 774 = .ok (.iload_n 3, 1) := by decide +kernel
theorem dL_law_775 : decode cL_law 775 = .ok (.iconst 1, 1) := by decide +kernel
theorem dL_law_776 : decode cL_law 776 = .ok (.iadd, 1) := by decide +kernel
theorem dL_law_777 : decode cL_law 777 = .ok (.iaload, 1) := by decide +kernel
theorem dL_law_778 : decode cL_law 778 = .ok (.aload_n 0, 1) := by decide +kernel
theorem dL_law_779 : decode cL_law 779 = .ok (.iload_n 3, 1) := by decide +kernel
theorem dL_law_780 : decode cL_law 780 = .ok (.iconst 2, 1) := by decide +kernel
theorem dL_law_781 : decode cL_law 781 = .ok (.iadd, 1) := by decide +kernel
theorem dL_law_782 : decode cL_law 782 = .ok (.iaload, 1) := by decide +kernel
theorem dL_law_783 : decode cL_law 783 = .ok (.aload_n 0, 1) := by decide +kernel
theorem dL_law_784 : decode cL_law 784 = .ok (.iload_n 3, 1) := by decide +kernel
theorem dL_law_785 : decode cL_law 785 = .ok (.iconst 3, 1) := by decide +kernel
theorem dL_law_786 : decode cL_law 786 = .ok (.iadd, 1) := by decide +kernel
theorem dL_law_787 : decode cL_law 787 = .ok (.iaload, 1) := by decide +kernel
theorem dL_law_788 : decode cL_law 788 = .ok (.aload_n 0, 1) := by decide +kernel
theorem dL_law_789 : decode cL_law 789 = .ok (.iload_n 3, 1) := by decide +kernel
theorem dL_law_790 : decode cL_law 790 = .ok (.iconst 4, 1) := by decide +kernel
theorem dL_law_791 : decode cL_law 791 = .ok (.iadd, 1) := by decide +kernel
theorem dL_law_792 : decode cL_law 792 = .ok (.iaload, 1) := by decide +kernel
theorem dL_law_793 : decode cL_law 793 = .ok (.invokevirtual 105, 3) := by decide +kernel
theorem dL_law_796 : decode cL_law 796 = .ok (.aload_n 2, 1) := by decide +kernel
theorem dL_law_797 : decode cL_law 797 = .ok (.aload_n 0, 1) := by decide +kernel
theorem dL_law_798 : decode cL_law 798 = .ok (.iload_n 3, 1) := by decide +kernel
theorem dL_law_799 : decode cL_law 799 = .ok (.iconst 1, 1) := by decide +kernel
theorem dL_law_800 : decode cL_law 800 = .ok (.iadd, 1) := by decide +kernel
theorem dL_law_801 : decode cL_law 801 = .ok (.iaload, 1) := by decide +kernel
theorem dL_law_802 : decode cL_law 802 = .ok (.aload_n 0, 1) := by decide +kernel
theorem dL_law_803 : decode cL_law 803 = .ok (.iload_n 3, 1) := by decide +kernel
theorem dL_law_804 : decode cL_law 804 = .ok (.iconst 2, 1) := by decide +kernel
theorem dL_law_805 : decode cL_law 805 = .ok (.iadd, 1) := by decide +kernel
theorem dL_law_806 : decode cL_law 806 = .ok (.iaload, 1) := by decide +kernel
theorem dL_law_807 : decode cL_law 807 = .ok (.aload_n 0, 1) := by decide +kernel
theorem dL_law_808 : decode cL_law 808 = .ok (.iload_n 3, 1) := by decide +kernel
theorem dL_law_809 : decode cL_law 809 = .ok (.iconst 3, 1) := by decide +kernel
theorem dL_law_810 : decode cL_law 810 = .ok (.iadd, 1) := by decide +kernel
theorem dL_law_811 : decode cL_law 811 = .ok (.iaload, 1) := by decide +kernel
theorem dL_law_812 : decode cL_law 812 = .ok (.aload_n 0, 1) := by decide +kernel
theorem dL_law_813 : decode cL_law 813 = .ok (.iload_n 3, 1) := by decide +kernel
theorem dL_law_814 : decode cL_law 814 = .ok (.iconst 4, 1) := by decide +kernel
theorem dL_law_815 : decode cL_law 815 = .ok (.iadd, 1) := by decide +kernel
theorem dL_law_816 : decode cL_law 816 = .ok (.iaload, 1) := by decide +kernel
theorem dL_law_817 : decode cL_law 817 = .ok (.invokevirtual 109, 3) := by decide +kernel
theorem dL_law_820 : decode cL_law 820 = .ok (.if_icmp .eq 654, 3) := by decide +kernel
theorem dL_law_823 : decode cL_law 823 = .ok (.iconst 0, 1) := by decide +kernel
theorem dL_law_824 : decode cL_law 824 = .ok (.ireturn, 1) := by decide +kernel
theorem dL_law_825 : decode cL_law 825 = .ok (.aload_n 1, 1) := by decide +kernel
theorem dL_law_826 : decode cL_law 826 = .ok (.aload_n 0, 1) := by decide +kernel
theorem dL_law_827 : decode cL_law 827 = .ok (.iload_n 3, 1) := by decide +kernel
theorem dL_law_828 : decode cL_law 828 = .ok (.iconst 1, 1) := by decide +kernel
theorem dL_law_829 : decode cL_law 829 = .ok (.iadd, 1) := by decide +kernel
theorem dL_law_830 : decode cL_law 830 = .ok (.iaload, 1) := by decide +kernel
theorem dL_law_831 : decode cL_law 831 = .ok (.aload_n 0, 1) := by decide +kernel
theorem dL_law_832 : decode cL_law 832 = .ok (.iload_n 3, 1) := by decide +kernel
theorem dL_law_833 : decode cL_law 833 = .ok (.iconst 2, 1) := by decide +kernel
theorem dL_law_834 : decode cL_law 834 = .ok (.iadd, 1) := by decide +kernel
theorem dL_law_835 : decode cL_law 835 = .ok (.iaload, 1) := by decide +kernel
theorem dL_law_836 : decode cL_law 836 = .ok (.invokevirtual 110, 3) := by decide +kernel
theorem dL_law_839 : decode cL_law 839 = .ok (.aload_n 2, 1) := by decide +kernel
theorem dL_law_840 : decode cL_law 840 = .ok (.aload_n 0, 1) := by decide +kernel
theorem dL_law_841 : decode cL_law 841 = .ok (.iload_n 3, 1) := by decide +kernel
theorem dL_law_842 : decode cL_law 842 = .ok (.iconst 1, 1) := by decide +kernel
theorem dL_law_843 : decode cL_law 843 = .ok (.iadd, 1) := by decide +kernel
theorem dL_law_844 : decode cL_law 844 = .ok (.iaload, 1) := by decide +kernel
theorem dL_law_845 : decode cL_law 845 = .ok (.aload_n 0, 1) := by decide +kernel
theorem dL_law_846 : decode cL_law 846 = .ok (.iload_n 3, 1) := by decide +kernel
theorem dL_law_847 : decode cL_law 847 = .ok (.iconst 2, 1) := by decide +kernel
theorem dL_law_848 : decode cL_law 848 = .ok (.iadd, 1) := by decide +kernel
theorem dL_law_849 : decode cL_law 849 = .ok (.iaload, 1) := by decide +kernel
end
section
theorem dL_law_850 : decode cL_law 850 = .ok (.invokevirtual 113, 3) := by decide +kernel
theorem dL_law_853 : decode cL_law 853 = .ok (.if_icmp .eq 621, 3) := by decide +kernel
theorem dL_law_856 : decode cL_law 856 = .ok (.iconst 0, 1) := by decide +kernel
theorem dL_law_857 : decode cL_law 857 = .ok (.ireturn, 1) := by decide +kernel
theorem dL_law_858 : decode cL_law 858 = .ok (.aload_n 1, 1) := by decide +kernel
theorem dL_law_859 : decode cL_law 859 = .ok (.aload_n 0, 1) := by decide +kernel
theorem dL_law_860 : decode cL_law 860 = .ok (.iload_n 3, 1) := by decide +kernel
theorem dL_law_861 : decode cL_law 861 = .ok (.iconst 1, 1) := by decide +kernel
theorem dL_law_862 : decode cL_law 862 = .ok (.iadd, 1) := by decide +kernel
theorem dL_law_863 : decode cL_law 863 = .ok (.iaload, 1) := by decide +kernel
theorem dL_law_864 : decode cL_law 864 = .ok (.aload_n 0, 1) := by decide +kernel
theorem dL_law_865 : decode cL_law 865 = .ok (.iload_n 3, 1) := by decide +kernel
theorem dL_law_866 : decode cL_law 866 = .ok (.iconst 2, 1) := by decide +kernel
theorem dL_law_867 : decode cL_law 867 = .ok (.iadd, 1) := by decide +kernel
theorem dL_law_868 : decode cL_law 868 = .ok (.iaload, 1) := by decide +kernel
theorem dL_law_869 : decode cL_law 869 = .ok (.invokevirtual 114, 3) := by decide +kernel
theorem dL_law_872 : decode cL_law 872 = .ok (.aload_n 2, 1) := by decide +kernel
theorem dL_law_873 : decode cL_law 873 = .ok (.aload_n 0, 1) := by decide +kernel
theorem dL_law_874 : decode cL_law 874 = .ok (.iload_n 3, 1) := by decide +kernel
theorem dL_law_875 : decode cL_law 875 = .ok (.iconst 1, 1) := by decide +kernel
theorem dL_law_876 : decode cL_law 876 = .ok (.iadd, 1) := by decide +kernel
theorem dL_law_877 : decode cL_law 877 = .ok (.iaload, 1) := by decide +kernel
theorem dL_law_878 : decode cL_law 878 = .ok (.aload_n 0, 1) := by decide +kernel
theorem dL_law_879 : decode cL_law 879 = .ok (.iload_n 3, 1) := by decide +kernel
theorem dL_law_880 : decode cL_law 880 = .ok (.iconst 2, 1) := by decide +kernel
theorem dL_law_881 : decode cL_law 881 = .ok (.iadd, 1) := by decide +kernel
theorem dL_law_882 : decode cL_law 882 = .ok (.iaload, 1) := by decide +kernel
theorem dL_law_883 : decode cL_law 883 = .ok (.invokevirtual 117, 3) := by decide +kernel
theorem dL_law_886 : decode cL_law 886 = .ok (.if_icmp .eq 588, 3) := by decide +kernel
theorem dL_law_889 : decode cL_law 889 = .ok (.iconst 0, 1) := by decide +kernel
theorem dL_law_890 : decode cL_law 890 = .ok (.ireturn, 1) := by decide +kernel
theorem dL_law_891 : decode cL_law 891 = .ok (.aload_n 1, 1) := by decide +kernel
theorem dL_law_892 : decode cL_law 892 = .ok (.aload_n 0, 1) := by decide +kernel
theorem dL_law_893 : decode cL_law 893 = .ok (.iload_n 3, 1) := by decide +kernel
theorem dL_law_894 : decode cL_law 894 = .ok (.iconst 1, 1) := by decide +kernel
theorem dL_law_895 : decode cL_law 895 = .ok (.iadd, 1) := by decide +kernel
theorem dL_law_896 : decode cL_law 896 = .ok (.iaload, 1) := by decide +kernel
theorem dL_law_897 : decode cL_law 897 = .ok (.aload_n 0, 1) := by decide +kernel
theorem dL_law_898 : decode cL_law 898 = .ok (.iload_n 3, 1) := by decide +kernel
theorem dL_law_899 : decode cL_law 899 = .ok (.iconst 2, 1) := by decide +kernel
theorem dL_law_900 : decode cL_law 900 = .ok (.iadd, 1) := by decide +kernel
theorem dL_law_901 : decode cL_law 901 = .ok (.iaload, 1) := by decide +kernel
theorem dL_law_902 : decode cL_law 902 = .ok (.aload_n 0, 1) := by decide +kernel
theorem dL_law_903 : decode cL_law 903 = .ok (.iload_n 3, 1) := by decide +kernel
theorem dL_law_904 : decode cL_law 904 = .ok (.iconst 3, 1) := by decide +kernel
theorem dL_law_905 : decode cL_law 905 = .ok (.iadd, 1) := by decide +kernel
theorem dL_law_906 : decode cL_law 906 = .ok (.iaload, 1) := by decide +kernel
theorem dL_law_907 : decode cL_law 907 = .ok (.invokevirtual 118, 3) := by decide +kernel
theorem dL_law_910 : decode cL_law 910 = .ok (.aload_n 2, 1) := by decide +kernel
theorem dL_law_911 : decode cL_law 911 = .ok (.aload_n 0, 1) := by decide +kernel
theorem dL_law_912 : decode cL_law 912 = .ok (.iload_n 3, 1) := by decide +kernel
theorem dL_law_913 : decode cL_law 913 = .ok (.iconst 1, 1) := by decide +kernel
theorem dL_law_914 : decode cL_law 914 = .ok (.iadd, 1) := by decide +kernel
theorem dL_law_915 : decode cL_law 915 = .ok (.iaload, 1) := by decide +kernel
theorem dL_law_916 : decode cL_law 916 = .ok (.aload_n 0, 1) := by decide +kernel
theorem dL_law_917 : decode cL_law 917 = .ok (.iload_n 3, 1) := by decide +kernel
theorem dL_law_918 : decode cL_law 918 = .ok (.iconst 2, 1) := by decide +kernel
theorem dL_law_919 : decode cL_law 919 = .ok (.iadd, 1) := by decide +kernel
theorem dL_law_920 : decode cL_law 920 = .ok (.iaload, 1) := by decide +kernel
theorem dL_law_921 : decode cL_law 921 = .ok (.aload_n 0, 1) := by decide +kernel
theorem dL_law_922 : decode cL_law 922 = .ok (.iload_n 3, 1) := by decide +kernel
theorem dL_law_923 : decode cL_law 923 = .ok (.iconst 3, 1) := by decide +kernel
theorem dL_law_924 : decode cL_law 924 = .ok (.iadd, 1) := by decide +kernel
theorem dL_law_925 : decode cL_law 925 = .ok (.iaload, 1) := by decide +kernel
theorem dL_law_926 : decode cL_law 926 = .ok (.invokevirtual 121, 3) := by decide +kernel
theorem dL_law_929 : decode cL_law 929 = .ok (.if_icmp .eq 545, 3) := by decide +kernel
theorem dL_law_932 : decode cL_law 932 = .ok (.iconst 0, 1) := by decide +kernel
theorem dL_law_933 : decode cL_law 933 = .ok (.ireturn, 1) := by decide +kernel
theorem dL_law_934 : decode cL_law 934 = .ok (.aload_n 1, 1) := by decide +kernel
theorem dL_law_935 : decode cL_law 935 = .ok (.aload_n 0, 1) := by decide +kernel
theorem dL_law_936 : decode cL_law 936 = .ok (.iload_n 3, 1) := by decide +kernel
theorem dL_law_937 : decode cL_law 937 = .ok (.iconst 1, 1) := by decide +kernel
theorem dL_law_938 : decode cL_law 938 = .ok (.iadd, 1) := by decide +kernel
theorem dL_law_939 : decode cL_law 939 = .ok (.iaload, 1) := by decide +kernel
theorem dL_law_940 : decode cL_law 940 = .ok (.aload_n 0, 1) := by decide +kernel
theorem dL_law_941 : decode cL_law 941 = .ok (.iload_n 3, 1) := by decide +kernel
theorem dL_law_942 : decode cL_law 942 = .ok (.iconst 2, 1) := by decide +kernel
theorem dL_law_943 : decode cL_law 943 = .ok (.iadd, 1) := by decide +kernel
theorem dL_law_944 : decode cL_law 944 = .ok (.iaload, 1) := by decide +kernel
theorem dL_law_945 : decode cL_law 945 = .ok (.invokevirtual 122, 3) := by decide +kernel
theorem dL_law_948 : decode cL_law 948 = .ok (.aload_n 2, 1) := by decide +kernel
theorem dL_law_949 : decode cL_law 949 = .ok (.aload_n 0, 1) := by decide +kernel
theorem dL_law_950 : decode cL_law 950 = .ok (.iload_n 3, 1) := by decide +kernel
theorem dL_law_951 : decode cL_law 951 = .ok (.iconst 1, 1) := by decide +kernel
theorem dL_law_952 : decode cL_law 952 = .ok (.iadd, 1) := by decide +kernel
theorem dL_law_953 : decode cL_law 953 = .ok (.iaload, 1) := by decide +kernel
theorem dL_law_954 : decode cL_law 954 = .ok (.aload_n 0, 1) := by decide +kernel
theorem dL_law_955 : decode cL_law 955 = .ok (.iload_n 3, 1) := by decide +kernel
theorem dL_law_956 : decode cL_law 956 = .ok (.iconst 2, 1) := by decide +kernel
theorem dL_law_957 : decode cL_law 957 = .ok (.iadd, 1) := by decide +kernel
theorem dL_law_958 : decode cL_law 958 = .ok (.iaload, 1) := by decide +kernel
theorem dL_law_959 : decode cL_law 959 = .ok (.invokevirtual 125, 3) := by decide +kernel
theorem dL_law_962 : decode cL_law 962 = .ok (.if_icmp .eq 512, 3) := by decide +kernel
theorem dL_law_965 : decode cL_law 965 = .ok (.iconst 0, 1) := by decide +kernel
theorem dL_law_966 : decode cL_law 966 = .ok (.ireturn, 1) := by decide +kernel
theorem dL_law_967 : decode cL_law 967 = .ok (.aload_n 1, 1) := by decide +kernel
theorem dL_law_968 : decode cL_law 968 = .ok (.aload_n 0, 1) := by decide +kernel
theorem dL_law_969 : decode cL_law 969 = .ok (.iload_n 3, 1) := by decide +kernel
theorem dL_law_970 : decode cL_law 970 = .ok (.iconst 1, 1) := by decide +kernel
theorem dL_law_971 : decode cL_law 971 = .ok (.iadd, 1) := by decide +kernel
theorem dL_law_972 : decode cL_law 972 = .ok (.iaload, 1) := by decide +kernel
theorem dL_law_973 : decode cL_law 973 = .ok (.aload_n 0, 1) := by decide +kernel
theorem dL_law_974 : decode cL_law 974 = .ok (.iload_n 3, 1) := by decide +kernel
theorem dL_law_975 : decode cL_law 975 = .ok (.iconst 2, 1) := by decide +kernel
theorem dL_law_976 : decode cL_law 976 = .ok (.iadd, 1) := by decide +kernel
theorem dL_law_977 : decode cL_law 977 = .ok (.iaload, 1) := by decide +kernel
theorem dL_law_978 : decode cL_law 978 = .ok (.aload_n 0, 1) := by decide +kernel
theorem dL_law_979 : decode cL_law 979 = .ok (.iload_n 3, 1) := by decide +kernel
theorem dL_law_980 : decode cL_law 980 = .ok (.iconst 3, 1) := by decide +kernel
theorem dL_law_981 : decode cL_law 981 = .ok (.iadd, 1) := by decide +kernel
theorem dL_law_982 : decode cL_law 982 = .ok (.iaload, 1) := by decide +kernel
theorem dL_law_983 : decode cL_law 983 = .ok (.invokevirtual 126, 3) := by decide +kernel
theorem dL_law_986 : decode cL_law 986 = .ok (.aload_n 2, 1) := by decide +kernel
theorem dL_law_987 : decode cL_law 987 = .ok (.aload_n 0, 1) := by decide +kernel
theorem dL_law_988 : decode cL_law 988 = .ok (.iload_n 3, 1) := by decide +kernel
theorem dL_law_989 : decode cL_law 989 = .ok (.iconst 1, 1) := by decide +kernel
theorem dL_law_990 : decode cL_law 990 = .ok (.iadd, 1) := by decide +kernel
theorem dL_law_991 : decode cL_law 991 = .ok (.iaload, 1) := by decide +kernel
theorem dL_law_992 : decode cL_law 992 = .ok (.aload_n 0, 1) := by decide +kernel
theorem dL_law_993 : decode cL_law 993 = .ok (.iload_n 3, 1) := by decide +kernel
theorem dL_law_994 : decode cL_law 994 = .ok (.iconst 2, 1) := by decide +kernel
theorem dL_law_995 : decode cL_law 995 = .ok (.iadd, 1) := by decide +kernel
theorem dL_law_996 : decode cL_law 996 = .ok (.iaload, 1) := by decide +kernel
theorem dL_law_997 : decode cL_law 997 = .ok (.aload_n 0, 1) := by decide +kernel
theorem dL_law_998 : decode cL_law 998 = .ok (.iload_n 3, 1) := by decide +kernel
theorem dL_law_999 : decode cL_law 999 = .ok (.iconst 3, 1) := by decide +kernel
theorem dL_law_1000 : decode cL_law 1000 = .ok (.iadd, 1) := by decide +kernel
theorem dL_law_1001 : decode cL_law 1001 = .ok (.iaload, 1) := by decide +kernel
theorem dL_law_1002 : decode cL_law 1002 = .ok (.invokevirtual 129, 3) := by decide +kernel
theorem dL_law_1005 : decode cL_law 1005 = .ok (.if_icmp .eq 469, 3) := by decide +kernel
theorem dL_law_1008 : decode cL_law 1008 = .ok (.iconst 0, 1) := by decide +kernel
theorem dL_law_1009 : decode cL_law 1009 = .ok (.ireturn, 1) := by decide +kernel
theorem dL_law_1010 : decode cL_law 1010 = .ok (.aload_n 1, 1) := by decide +kernel
theorem dL_law_1011 : decode cL_law 1011 = .ok (.aload_n 0, 1) := by decide +kernel
theorem dL_law_1012 : decode cL_law 1012 = .ok (.iload_n 3, 1) := by decide +kernel
theorem dL_law_1013 : decode cL_law 1013 = .ok (.iconst 1, 1) := by decide +kernel
theorem dL_law_1014 : decode cL_law 1014 = .ok (.iadd, 1) := by decide +kernel
theorem dL_law_1015 : decode cL_law 1015 = .ok (.iaload, 1) := by decide +kernel
theorem dL_law_1016 : decode cL_law 1016 = .ok (.invokevirtual 130, 3) := by decide +kernel
theorem dL_law_1019 : decode cL_law 1019 = .ok (.aload_n 2, 1) := by decide +kernel
theorem dL_law_1020 : decode cL_law 1020 = .ok (.aload_n 0, 1) := by decide +kernel
theorem dL_law_1021 : decode cL_law 1021 = .ok (.iload_n 3, 1) := by decide +kernel
theorem dL_law_1022 : decode cL_law 1022 = .ok (.iconst 1, 1) := by decide +kernel
theorem dL_law_1023 : decode cL_law 1023 = .ok (.iadd, 1) := by decide +kernel
theorem dL_law_1024 : decode cL_law 1024 = .ok (.iaload, 1) := by decide +kernel
theorem dL_law_1025 : decode cL_law 1025 = .ok (.invokevirtual 133, 3) := by decide +kernel
theorem dL_law_1028 : decode cL_law 1028 = .ok (.if_icmp .eq 446, 3) := by decide +kernel
theorem dL_law_1031 : decode cL_law 1031 = .ok (.iconst 0, 1) := by decide +kernel
theorem dL_law_1032 : decode cL_law 1032 = .ok (.ireturn, 1) := by decide +kernel
theorem dL_law_1033 : decode cL_law 1033 = .ok (.aload_n 1, 1) := by decide +kernel
theorem dL_law_1034 : decode cL_law 1034 = .ok (.aload_n 0, 1) := by decide +kernel
theorem dL_law_1035 : decode cL_law 1035 = .ok (.iload_n 3, 1) := by decide +kernel
theorem dL_law_1036 : decode cL_law 1036 = .ok (.iconst 1, 1) := by decide +kernel
theorem dL_law_1037 : decode cL_law 1037 = .ok (.iadd, 1) := by decide +kernel
theorem dL_law_1038 : decode cL_law 1038 = .ok (.iaload, 1) := by decide +kernel
theorem dL_law_1039 : decode cL_law 1039 = .ok (.invokevirtual 134, 3) := by decide +kernel
theorem dL_law_1042 : decode cL_law 1042 = .ok (.aload_n 2, 1) := by decide +kernel
theorem dL_law_1043 : decode cL_law 1043 = .ok (.aload_n 0, 1) := by decide +kernel
theorem dL_law_1044 : decode cL_law 1044 = .ok (.iload_n 3, 1) := by decide +kernel
theorem dL_law_1045 : decode cL_law 1045 = .ok (.iconst 1, 1) := by decide +kernel
theorem dL_law_1046 : decode cL_law 1046 = .ok (.iadd, 1) := by decide +kernel
theorem dL_law_1047 : decode cL_law 1047 = .ok (.iaload, 1) := by decide +kernel
theorem dL_law_1048 : decode cL_law 1048 = .ok (.invokevirtual 137, 3) := by decide +kernel
theorem dL_law_1051 : decode cL_law 1051 = .ok (.if_icmp .eq 423, 3) := by decide +kernel
theorem dL_law_1054 : decode cL_law 1054 = .ok (.iconst 0, 1) := by decide +kernel
theorem dL_law_1055 : decode cL_law 1055 = .ok (.ireturn, 1) := by decide +kernel
theorem dL_law_1056 : decode cL_law 1056 = .ok (.aload_n 1, 1) := by decide +kernel
theorem dL_law_1057 : decode cL_law 1057 = .ok (.invokevirtual 138, 3) := by decide +kernel
theorem dL_law_1060 : decode cL_law 1060 = .ok (.aload_n 2, 1) := by decide +kernel
theorem dL_law_1061 : decode cL_law 1061 = .ok (.invokevirtual 141, 3) := by decide +kernel
theorem dL_law_1064 : decode cL_law 1064 = .ok (.if_icmp .eq 410, 3) := by decide +kernel
theorem dL_law_1067 : decode cL_law 1067 = .ok (.iconst 0, 1) := by decide +kernel
theorem dL_law_1068 : decode cL_law 1068 = .ok (.ireturn, 1) := by decide +kernel
theorem dL_law_1069 : decode cL_law 1069 = .ok (.aload_n 1, 1) := by decide +kernel
theorem dL_law_1070 : decode cL_law 1070 = .ok (.invokevirtual 142, 3) := by decide +kernel
theorem dL_law_1073 : decode cL_law 1073 = .ok (.aload_n 2, 1) := by decide +kernel
theorem dL_law_1074 : decode cL_law 1074 = .ok (.invokevirtual 145, 3) := by decide +kernel
theorem dL_law_1077 : decode cL_law 1077 = .ok (.if_icmp .eq 397, 3) := by decide +kernel
theorem dL_law_1080 : decode cL_law 1080 = .ok (.iconst 0, 1) := by decide +kernel
theorem dL_law_1081 : decode cL_law 1081 = .ok (.ireturn, 1) := by decide +kernel
theorem dL_law_1082 : decode cL_law 1082 = .ok (.aload_n 1, 1) := by decide +kernel
theorem dL_law_1083 : decode cL_law 1083 = .ok (.aload_n 0, 1) := by decide +kernel
theorem dL_law_1084 : decode cL_law 1084 = .ok (.iload_n 3, 1) := by decide +kernel
theorem dL_law_1085 : decode cL_law 1085 = .ok (.iconst 1, 1) := by decide +kernel
theorem dL_law_1086 : decode cL_law 1086 = .ok (.iadd, 1) := by decide +kernel
theorem dL_law_1087 : decode cL_law 1087 = .ok (.iaload, 1) := by decide +kernel
theorem dL_law_1088 : decode cL_law 1088 = .ok (.aload_n 0, 1) := by decide +kernel
theorem dL_law_1089 : decode cL_law 1089 = .ok (.iload_n 3, 1) := by decide +kernel
theorem dL_law_1090 : decode cL_law 1090 = .ok (.iconst 2, 1) := by decide +kernel
theorem dL_law_1091 : decode cL_law 1091 = .ok (.iadd, 1) := by decide +kernel
theorem dL_law_1092 : decode cL_law 1092 = .ok (.iaload, 1) := by decide +kernel
theorem dL_law_1093 : decode cL_law 1093 = .ok (.aload_n 0, 1) := by decide +kernel
theorem dL_law_1094 : decode cL_law 1094 = .ok (.iload_n 3, 1) := by decide +kernel
theorem dL_law_1095 : decode cL_law 1095 = .ok (.iconst 3, 1) := by decide +kernel
theorem dL_law_1096 : decode cL_law 1096 = .ok (.iadd, 1) := by decide +kernel
theorem dL_law_1097 : decode cL_law 1097 = .ok (.iaload, 1) := by decide +kernel
theorem dL_law_1098 : decode cL_law 1098 = .ok (.aload_n 0, 1) := by decide +kernel
theorem dL_law_1099 : decode cL_law 1099 = .ok (.iload_n 3, 1) := by decide +kernel
theorem dL_law_1100 : decode cL_law 1100 = .ok (.iconst 4, 1) := by decide +kernel
theorem dL_law_1101 : decode cL_law 1101 = .ok (.iadd, 1) := by decide +kernel
theorem dL_law_1102 : decode cL_law 1102 = .ok (.iaload, 1) := by decide +kernel
theorem dL_law_1103 : decode cL_law 1103 = .ok (.aload_n 0, 1) := by decide +kernel
theorem dL_law_1104 : decode cL_law 1104 = .ok (.iload_n 3, 1) := by decide +kernel
theorem dL_law_1105 : decode cL_law 1105 = .ok (.iconst 5, 1) := by decide +kernel
theorem dL_law_1106 : decode cL_law 1106 = .ok (.iadd, 1) := by decide +kernel
theorem dL_law_1107 : decode cL_law 1107 = .ok (.iaload, 1) := by decide +kernel
theorem dL_law_1108 : decode cL_law 1108 = .ok (.invokevirtual 146, 3) := by decide +kernel
theorem dL_law_1111 : decode cL_law 1111 = .ok (.aload_n 2, 1) := by decide +kernel
theorem dL_law_1112 : decode cL_law 1112 = .ok (.aload_n 0, 1) := by decide +kernel
theorem dL_law_1113 : decode cL_law 1113 = .ok (.iload_n 3, 1) := by decide +kernel
theorem dL_law_1114 : decode cL_law 1114 = .ok (.iconst 1, 1) := by decide +kernel
theorem dL_law_1115 : decode cL_law 1115 = .ok (.iadd, 1) := by decide +kernel
theorem dL_law_1116 : decode cL_law 1116 = .ok (.iaload, 1) := by decide +kernel
theorem dL_law_1117 : decode cL_law 1117 = .ok (.aload_n 0, 1) := by decide +kernel
theorem dL_law_1118 : decode cL_law 1118 = .ok (.iload_n 3, 1) := by decide +kernel
theorem dL_law_1119 : decode cL_law 1119 = .ok (.iconst 2, 1) := by decide +kernel
theorem dL_law_1120 : decode cL_law 1120 = .ok (.iadd, 1) := by decide +kernel
theorem dL_law_1121 : decode cL_law 1121 = .ok (.iaload, 1) := by decide +kernel
theorem dL_law_1122 : decode cL_law 1122 = .ok (.aload_n 0, 1) := by decide +kernel
theorem dL_law_1123 : decode cL_law 1123 = .ok (.iload_n 3, 1) := by decide +kernel
theorem dL_law_1124 : decode cL_law 1124 = .ok (.iconst 3, 1) := by decide +kernel
theorem dL_law_1125 : decode cL_law 1125 = .ok (.iadd, 1) := by decide +kernel
theorem dL_law_1126 : decode cL_law 1126 = .ok (.iaload, 1) := by decide +kernel
theorem dL_law_1127 : decode cL_law 1127 = .ok (.aload_n 0, 1) := by decide +kernel
theorem dL_law_1128 : decode cL_law 1128 = .ok (.iload_n 3, 1) := by decide +kernel
theorem dL_law_1129 : decode cL_law 1129 = .ok (.iconst 4, 1) := by decide +kernel
theorem dL_law_1130 : decode cL_law 1130 = .ok (.iadd, 1) := by decide +kernel
theorem dL_law_1131 : decode cL_law 1131 = .ok (.iaload, 1) := by decide +kernel
theorem dL_law_1132 : decode cL_law 1132 = .ok (.aload_n 0, 1) := by decide +kernel
theorem dL_law_1133 : decode cL_law 1133 = .ok (.iload_n 3, 1) := by decide +kernel
theorem dL_law_1134 : decode cL_law 1134 = .ok (.iconst 5, 1) := by decide +kernel
theorem dL_law_1135 : decode cL_law 1135 = .ok (.iadd, 1) := by decide +kernel
theorem dL_law_1136 : decode cL_law 1136 = .ok (.iaload, 1) := by decide +kernel
theorem dL_law_1137 : decode cL_law 1137 = .ok (.invokevirtual 150, 3) := by decide +kernel
theorem dL_law_1140 : decode cL_law 1140 = .ok (.lcmp, 1) := by decide +kernel
theorem dL_law_1141 : decode cL_law 1141 = .ok (.ifCond .eq 333, 3) := by decide +kernel
theorem dL_law_1144 : decode cL_law 1144 = .ok (.iconst 0, 1) := by decide +kernel
theorem dL_law_1145 : decode cL_law 1145 = .ok (.ireturn, 1) := by decide +kernel
theorem dL_law_1146 : decode cL_law 1146 = .ok (.aload_n 1, 1) := by decide +kernel
theorem dL_law_1147 : decode cL_law 1147 = .ok (.aload_n 0, 1) := by decide +kernel
theorem dL_law_1148 : decode cL_law 1148 = .ok (.iload_n 3, 1) := by decide +kernel
theorem dL_law_1149 : decode cL_law 1149 = .ok (.iconst 1, 1) := by decide +kernel
theorem dL_law_1150 : decode cL_law 1150 = .ok (.iadd, 1) := by decide +kernel
theorem dL_law_1151 : decode cL_law 1151 = .ok (.iaload, 1) := by decide +kernel
theorem dL_law_1152 : decode cL_law 1152 = .ok (.aload_n 0, 1) := by decide +kernel
theorem dL_law_1153 : decode cL_law 1153 = .ok (.iload_n 3, 1) := by decide +kernel
theorem dL_law_1154 : decode cL_law 1154 = .ok (.iconst 2, 1) := by decide +kernel
theorem dL_law_1155 : decode cL_law 1155 = .ok (.iadd, 1) := by decide +kernel
theorem dL_law_1156 : decode cL_law 1156 = .ok (.iaload, 1) := by decide +kernel
theorem dL_law_1157 : decode cL_law 1157 = .ok (.aload_n 0, 1) := by decide +kernel
theorem dL_law_1158 : decode cL_law 1158 = .ok (.iload_n 3, 1) := by decide +kernel
theorem dL_law_1159 : decode cL_law 1159 = .ok (.iconst 3, 1) := by decide +kernel
theorem dL_law_1160 : decode cL_law 1160 = .ok (.iadd, 1) := by decide +kernel
theorem dL_law_1161 : decode cL_law 1161 = .ok (.iaload, 1) := by decide +kernel
theorem dL_law_1162 : decode cL_law 1162 = .ok (.invokevirtual 151, 3) := by decide +kernel
theorem dL_law_1165 : decode cL_law 1165 = .ok (.aload_n 2, 1) := by decide +kernel
theorem dL_law_1166 : decode cL_law 1166 = .ok (.aload_n 0, 1) := by decide +kernel
theorem dL_law_1167 : decode cL_law 1167 = .ok (.iload_n 3, 1) := by decide +kernel
theorem dL_law_1168 : decode cL_law 1168 = .ok (.iconst 1, 1) := by decide +kernel
theorem dL_law_1169 : decode cL_law 1169 = .ok (.iadd, 1) := by decide +kernel
theorem dL_law_1170 : decode cL_law 1170 = .ok (.iaload, 1) := by decide +kernel
theorem dL_law_1171 : decode cL_law 1171 = .ok (.aload_n 0, 1) := by decide +kernel
theorem dL_law_1172 : decode cL_law 1172 = .ok (.iload_n 3, 1) := by decide +kernel
theorem dL_law_1173 : decode cL_law 1173 = .ok (.iconst 2, 1) := by decide +kernel
theorem dL_law_1174 : decode cL_law 1174 = .ok (.iadd, 1) := by decide +kernel
theorem dL_law_1175 : decode cL_law 1175 = .ok (.iaload, 1) := by decide +kernel
theorem dL_law_1176 : decode cL_law 1176 = .ok (.aload_n 0, 1) := by decide +kernel
theorem dL_law_1177 : decode cL_law 1177 = .ok (.iload_n 3, 1) := by decide +kernel
theorem dL_law_1178 : decode cL_law 1178 = .ok (.iconst 3, 1) := by decide +kernel
theorem dL_law_1179 : decode cL_law 1179 = .ok (.iadd, 1) := by decide +kernel
theorem dL_law_1180 : decode cL_law 1180 = .ok (.iaload, 1) := by decide +kernel
theorem dL_law_1181 : decode cL_law 1181 = .ok (.invokevirtual 154, 3) := by decide +kernel
theorem dL_law_1184 : decode cL_law 1184 = .ok (.if_icmp .eq 290, 3) := by decide +kernel
theorem dL_law_1187 : decode cL_law 1187 = .ok (.iconst 0, 1) := by decide +kernel
theorem dL_law_1188 : decode cL_law 1188 = .ok (.ireturn, 1) := by decide +kernel
theorem dL_law_1189 : decode cL_law 1189 = .ok (.aload_n 1, 1) := by decide +kernel
theorem dL_law_1190 : decode cL_law 1190 = .ok (.aload_n 0, 1) := by decide +kernel
theorem dL_law_1191 : decode cL_law 1191 = .ok (.iload_n 3, 1) := by decide +kernel
theorem dL_law_1192 : decode cL_law 1192 = .ok (.iconst 1, 1) := by decide +kernel
theorem dL_law_1193 : decode cL_law 1193 = .ok (.iadd, 1) := by decide +kernel
theorem dL_law_1194 : decode cL_law 1194 = .ok (.iaload, 1) := by decide +kernel
theorem dL_law_1195 : decode cL_law 1195 = .ok (.aload_n 0, 1) := by decide +kernel
theorem dL_law_1196 : decode cL_law 1196 = .ok (.iload_n 3, 1) := by decide +kernel
theorem dL_law_1197 : decode cL_law 1197 = .ok (.iconst 2, 1) := by decide +kernel
theorem dL_law_1198 : decode cL_law 1198 = .ok (.iadd, 1) := by decide +kernel
theorem dL_law_1199 : decode cL_law 1199 = .ok (.iaload, 1) := by decide +kernel
theorem dL_law_1200 : decode cL_law 1200 = .ok (.aload_n 0, 1) := by decide +kernel
theorem dL_law_1201 : decode cL_law 1201 = .ok (.iload_n 3, 1) := by decide +kernel
theorem dL_law_1202 : decode cL_law 1202 = .ok (.iconst 3, 1) := by decide +kernel
theorem dL_law_1203 : decode cL_law 1203 = .ok (.iadd, 1) := by decide +kernel
theorem dL_law_1204 : decode cL_law 1204 = .ok (.iaload, 1) := by decide +kernel
theorem dL_law_1205 : decode cL_law 1205 = .ok (.invokevirtual 155, 3) := by decide +kernel
theorem dL_law_1208 : decode cL_law 1208 = .ok (.aload_n 2, 1) := by decide +kernel
theorem dL_law_1209 : decode cL_law 1209 = .ok (.aload_n 0, 1) := by decide +kernel
theorem dL_law_1210 : decode cL_law 1210 = .ok (.iload_n 3, 1) := by decide +kernel
theorem dL_law_1211 : decode cL_law 1211 = .ok (.iconst 1, 1) := by decide +kernel
theorem dL_law_1212 : decode cL_law 1212 = .ok (.iadd, 1) := by decide +kernel
theorem dL_law_1213 : decode cL_law 1213 = .ok (.iaload, 1) := by decide +kernel
theorem dL_law_1214 : decode cL_law 1214 = .ok (.aload_n 0, 1) := by decide +kernel
theorem dL_law_1215 : decode cL_law 1215 = .ok (.iload_n 3, 1) := by decide +kernel
theorem dL_law_1216 : decode cL_law 1216 = .ok (.iconst 2, 1) := by decide +kernel
theorem dL_law_1217 : decode cL_law 1217 = .ok (.iadd, 1) := by decide +kernel
theorem dL_law_1218 : decode cL_law 1218 = .ok (.iaload, 1) := by decide +kernel
theorem dL_law_1219 : decode cL_law 1219 = .ok (.aload_n 0, 1) := by decide +kernel
theorem dL_law_1220 : decode cL_law 1220 = .ok (.iload_n 3, 1) := by decide +kernel
theorem dL_law_1221 : decode cL_law 1221 = .ok (.iconst 3, 1) := by decide +kernel
theorem dL_law_1222 : decode cL_law 1222 = .ok (.iadd, 1) := by decide +kernel
theorem dL_law_1223 : decode cL_law 1223 = .ok (.iaload, 1) := by decide +kernel
theorem dL_law_1224 : decode cL_law 1224 = .ok (.invokevirtual 158, 3) := by decide +kernel
theorem dL_law_1227 : decode cL_law 1227 = .ok (.if_icmp .eq 247, 3) := by decide +kernel
theorem dL_law_1230 : decode cL_law 1230 = .ok (.iconst 0, 1) := by decide +kernel
theorem dL_law_1231 : decode cL_law 1231 = .ok (.ireturn, 1) := by decide +kernel
theorem dL_law_1232 : decode cL_law 1232 = .ok (.aload_n 1, 1) := by decide +kernel
theorem dL_law_1233 : decode cL_law 1233 = .ok (.aload_n 0, 1) := by decide +kernel
theorem dL_law_1234 : decode cL_law 1234 = .ok (.iload_n 3, 1) := by decide +kernel
theorem dL_law_1235 : decode cL_law 1235 = .ok (.iconst 1, 1) := by decide +kernel
theorem dL_law_1236 : decode cL_law 1236 = .ok (.iadd, 1) := by decide +kernel
theorem dL_law_1237 : decode cL_law 1237 = .ok (.iaload, 1) := by decide +kernel
theorem dL_law_1238 : decode cL_law 1238 = .ok (.invokevirtual 159, 3) := by decide +kernel
theorem dL_law_1241 : decode cL_law 1241 = .ok (.aload_n 2, 1) := by decide +kernel
theorem dL_law_1242 : decode cL_law 1242 = .ok (.aload_n 0, 1) := by decide +kernel
theorem dL_law_1243 : decode cL_law 1243 = .ok (.iload_n 3, 1) := by decide +kernel
theorem dL_law_1244 : decode cL_law 1244 = .ok (.iconst 1, 1) := by decide +kernel
theorem dL_law_1245 : decode cL_law 1245 = .ok (.iadd, 1) := by decide +kernel
theorem dL_law_1246 : decode cL_law 1246 = .ok (.iaload, 1) := by decide +kernel
theorem dL_law_1247 : decode cL_law 1247 = .ok (.invokevirtual 162, 3) := by decide +kernel
theorem dL_law_1250 : decode cL_law 1250 = .ok (.if_icmp .eq 224, 3) := by decide +kernel
theorem dL_law_1253 : decode cL_law 1253 = .ok (.iconst 0, 1) := by decide +kernel
theorem dL_law_1254 : decode cL_law 1254 = .ok (.ireturn, 1) := by decide +kernel
theorem dL_law_1255 : decode cL_law 1255 = .ok (.aload_n 1, 1) := by decide +kernel
theorem dL_law_1256 : decode cL_law 1256 = .ok (.aload_n 0, 1) := by decide +kernel
theorem dL_law_1257 : decode cL_law 1257 = .ok (.iload_n 3, 1) := by decide +kernel
theorem dL_law_1258 : decode cL_law 1258 = .ok (.iconst 1, 1) := by decide +kernel
theorem dL_law_1259 : decode cL_law 1259 = .ok (.iadd, 1) := by decide +kernel
theorem dL_law_1260 : decode cL_law 1260 = .ok (.iaload, 1) := by decide +kernel
theorem dL_law_1261 : decode cL_law 1261 = .ok (.aload_n 0, 1) := by decide +kernel
theorem dL_law_1262 : decode cL_law 1262 = .ok (.iload_n 3, 1) := by decide +kernel
theorem dL_law_1263 : decode cL_law 1263 = .ok (.iconst 2, 1) := by decide +kernel
theorem dL_law_1264 : decode cL_law 1264 = .ok (.iadd, 1) := by decide +kernel
theorem dL_law_1265 : decode cL_law 1265 = .ok (.iaload, 1) := by decide +kernel
theorem dL_law_1266 : decode cL_law 1266 = .ok (.aload_n 0, 1) := by decide +kernel
theorem dL_law_1267 : decode cL_law 1267 = .ok (.iload_n 3, 1) := by decide +kernel
theorem dL_law_1268 : decode cL_law 1268 = .ok (.iconst 3, 1) := by decide +kernel
theorem dL_law_1269 : decode cL_law 1269 = .ok (.iadd, 1) := by decide +kernel
theorem dL_law_1270 : decode cL_law 1270 = .ok (.iaload, 1) := by decide +kernel
theorem dL_law_1271 : decode cL_law 1271 = .ok (.aload_n 0, 1) := by decide +kernel
theorem dL_law_1272 : decode cL_law 1272 = .ok (.iload_n 3, 1) := by decide +kernel
theorem dL_law_1273 : decode cL_law 1273 = .ok (.iconst 4, 1) := by decide +kernel
theorem dL_law_1274 : decode cL_law 1274 = .ok (.iadd, 1) := by decide +kernel
theorem dL_law_1275 : decode cL_law 1275 = .ok (.iaload, 1) := by decide +kernel
theorem dL_law_1276 : decode cL_law 1276 = .ok (.invokevirtual 163, 3) := by decide +kernel
theorem dL_law_1279 : decode cL_law 1279 = .ok (.aload_n 2, 1) := by decide +kernel
theorem dL_law_1280 : decode cL_law 1280 = .ok (.aload_n 0, 1) := by decide +kernel
theorem dL_law_1281 : decode cL_law 1281 = .ok (.iload_n 3, 1) := by decide +kernel
theorem dL_law_1282 : decode cL_law 1282 = .ok (.iconst 1, 1) := by decide +kernel
theorem dL_law_1283 : decode cL_law 1283 = .ok (.iadd, 1) := by decide +kernel
theorem dL_law_1284 : decode cL_law 1284 = .ok (.iaload, 1) := by decide +kernel
theorem dL_law_1285 : decode cL_law 1285 = .ok (.aload_n 0, 1) := by decide +kernel
theorem dL_law_1286 : decode cL_law 1286 = .ok (.iload_n 3, 1) := by decide +kernel
theorem dL_law_1287 : decode cL_law 1287 = .ok (.iconst 2, 1) := by decide +kernel
theorem dL_law_1288 : decode cL_law 1288 = .ok (.iadd, 1) := by decide +kernel
theorem dL_law_1289 : decode cL_law 1289 = .ok (.iaload, 1) := by decide +kernel
theorem dL_law_1290 : decode cL_law 1290 = .ok (.aload_n 0, 1) := by decide +kernel
theorem dL_law_1291 : decode cL_law 1291 = .ok (.iload_n 3, 1) := by decide +kernel
theorem dL_law_1292 : decode cL_law 1292 = .ok (.iconst 3, 1) := by decide +kernel
theorem dL_law_1293 : decode cL_law 1293 = .ok (.iadd, 1) := by decide +kernel
theorem dL_law_1294 : decode cL_law 1294 = .ok (.iaload, 1) := by decide +kernel
theorem dL_law_1295 : decode cL_law 1295 = .ok (.aload_n 0, 1) := by decide +kernel
theorem dL_law_1296 : decode cL_law 1296 = .ok (.iload_n 3, 1) := by decide +kernel
theorem dL_law_1297 : decode cL_law 1297 = .ok (.iconst 4, 1) := by decide +kernel
theorem dL_law_1298 : decode cL_law 1298 = .ok (.iadd, 1) := by decide +kernel
theorem dL_law_1299 : decode cL_law 1299 = .ok (.iaload, 1) := by decide +kernel
theorem dL_law_1300 : decode cL_law 1300 = .ok (.invokevirtual 166, 3) := by decide +kernel
theorem dL_law_1303 : decode cL_law 1303 = .ok (.if_icmp .eq 171, 3) := by decide +kernel
theorem dL_law_1306 : decode cL_law 1306 = .ok (.iconst 0, 1) := by decide +kernel
theorem dL_law_1307 : decode cL_law 1307 = .ok (.ireturn, 1) := by decide +kernel
theorem dL_law_1308 : decode cL_law 1308 = .ok (.aload_n 1, 1) := by decide +kernel
theorem dL_law_1309 : decode cL_law 1309 = .ok (.aload_n 0, 1) := by decide +kernel
theorem dL_law_1310 : decode cL_law 1310 = .ok (.iload_n 3, 1) := by decide +kernel
theorem dL_law_1311 : decode cL_law 1311 = .ok (.iconst 1, 1) := by decide +kernel
theorem dL_law_1312 : decode cL_law 1312 = .ok (.iadd, 1) := by decide +kernel
theorem dL_law_1313 : decode cL_law 1313 = .ok (.iaload, 1) := by decide +kernel
theorem dL_law_1314 : decode cL_law 1314 = .ok (.aload_n 0, 1) := by decide +kernel
theorem dL_law_1315 : decode cL_law 1315 = .ok (.iload_n 3, 1) := by decide +kernel
theorem dL_law_1316 : decode cL_law 1316 = .ok (.iconst 2, 1) := by decide +kernel
theorem dL_law_1317 : decode cL_law 1317 = .ok (.iadd, 1) := by decide +kernel
theorem dL_law_1318 : decode cL_law 1318 = .ok (.iaload, 1) := by decide +kernel
theorem dL_law_1319 : decode cL_law 1319 = .ok (.aload_n 0, 1) := by decide +kernel
theorem dL_law_1320 : decode cL_law 1320 = .ok (.iload_n 3, 1) := by decide +kernel
theorem dL_law_1321 : decode cL_law 1321 = .ok (.iconst 3, 1) := by decide +kernel
theorem dL_law_1322 : decode cL_law 1322 = .ok (.iadd, 1) := by decide +kernel
theorem dL_law_1323 : decode cL_law 1323 = .ok (.iaload, 1) := by decide +kernel
theorem dL_law_1324 : decode cL_law 1324 = .ok (.invokevirtual 167, 3) := by decide +kernel
theorem dL_law_1327 : decode cL_law 1327 = .ok (.aload_n 2, 1) := by decide +kernel
theorem dL_law_1328 : decode cL_law 1328 = .ok (.aload_n 0, 1) := by decide +kernel
theorem dL_law_1329 : decode cL_law 1329 = .ok (.iload_n 3, 1) := by decide +kernel
theorem dL_law_1330 : decode cL_law 1330 = .ok (.iconst 1, 1) := by decide +kernel
theorem dL_law_1331 : decode cL_law 1331 = .ok (.iadd, 1) := by decide +kernel
theorem dL_law_1332 : decode cL_law 1332 = .ok (.iaload, 1) := by decide +kernel
theorem dL_law_1333 : decode cL_law 1333 = .ok (.aload_n 0, 1) := by decide +kernel
theorem dL_law_1334 : decode cL_law 1334 = .ok (.iload_n 3, 1) := by decide +kernel
theorem dL_law_1335 : decode cL_law 1335 = .ok (.iconst 2, 1) := by decide +kernel
theorem dL_law_1336 : decode cL_law 1336 = .ok (.iadd, 1) := by decide +kernel
theorem dL_law_1337 : decode cL_law 1337 = .ok (.iaload, 1) := by decide +kernel
theorem dL_law_1338 : decode cL_law 1338 = .ok (.aload_n 0, 1) := by decide +kernel
theorem dL_law_1339 : decode cL_law 1339 = .ok (.iload_n 3, 1) := by decide +kernel
theorem dL_law_1340 : decode cL_law 1340 = .ok (.iconst 3, 1) := by decide +kernel
theorem dL_law_1341 : decode cL_law 1341 = .ok (.iadd, 1) := by decide +kernel
theorem dL_law_1342 : decode cL_law 1342 = .ok (.iaload, 1) := by decide +kernel
theorem dL_law_1343 : decode cL_law 1343 = .ok (.invokevirtual 170, 3) := by decide +kernel
theorem dL_law_1346 : decode cL_law 1346 = .ok (.if_icmp .eq 128, 3) := by decide +kernel
theorem dL_law_1349 : decode cL_law 1349 = .ok (.iconst 0, 1) := by decide +kernel
theorem dL_law_1350 : decode cL_law 1350 = .ok (.ireturn, 1) := by decide +kernel
theorem dL_law_1351 : decode cL_law 1351 = .ok (.aload_n 1, 1) := by decide +kernel
theorem dL_law_1352 : decode cL_law 1352 = .ok (.aload_n 0, 1) := by decide +kernel
theorem dL_law_1353 : decode cL_law 1353 = .ok (.iload_n 3, 1) := by decide +kernel
theorem dL_law_1354 : decode cL_law 1354 = .ok (.iconst 1, 1) := by decide +kernel
theorem dL_law_1355 : decode cL_law 1355 = .ok (.iadd, 1) := by decide +kernel
theorem dL_law_1356 : decode cL_law 1356 = .ok (.iaload, 1) := by decide +kernel
theorem dL_law_1357 : decode cL_law 1357 = .ok (.aload_n 0, 1) := by decide +kernel
theorem dL_law_1358 : decode cL_law 1358 = .ok (.iload_n 3, 1) := by decide +kernel
theorem dL_law_1359 : decode cL_law 1359 = .ok (.iconst 2, 1) := by decide +kernel
theorem dL_law_1360 : decode cL_law 1360 = .ok (.iadd, 1) := by decide +kernel
theorem dL_law_1361 : decode cL_law 1361 = .ok (.iaload, 1) := by decide +kernel
theorem dL_law_1362 : decode cL_law 1362 = .ok (.aload_n 0, 1) := by decide +kernel
theorem dL_law_1363 : decode cL_law 1363 = .ok (.iload_n 3, 1) := by decide +kernel
theorem dL_law_1364 : decode cL_law 1364 = .ok (.iconst 3, 1) := by decide +kernel
theorem dL_law_1365 : decode cL_law 1365 = .ok (.iadd, 1) := by decide +kernel
theorem dL_law_1366 : decode cL_law 1366 = .ok (.iaload, 1) := by decide +kernel
theorem dL_law_1367 : decode cL_law 1367 = .ok (.aload_n 0, 1) := by decide +kernel
theorem dL_law_1368 : decode cL_law 1368 = .ok (.iload_n 3, 1) := by decide +kernel
theorem dL_law_1369 : decode cL_law 1369 = .ok (.iconst 4, 1) := by decide +kernel
theorem dL_law_1370 : decode cL_law 1370 = .ok (.iadd, 1) := by decide +kernel
theorem dL_law_1371 : decode cL_law 1371 = .ok (.iaload, 1) := by decide +kernel
theorem dL_law_1372 : decode cL_law 1372 = .ok (.aload_n 0, 1) := by decide +kernel
theorem dL_law_1373 : decode cL_law 1373 = .ok (.iload_n 3, 1) := by decide +kernel
theorem dL_law_1374 : decode cL_law 1374 = .ok (.iconst 5, 1) := by decide +kernel
theorem dL_law_1375 : decode cL_law 1375 = .ok (.iadd, 1) := by decide +kernel
theorem dL_law_1376 : decode cL_law 1376 = .ok (.iaload, 1) := by decide +kernel
theorem dL_law_1377 : decode cL_law 1377 = .ok (.invokevirtual 171, 3) := by decide +kernel
theorem dL_law_1380 : decode cL_law 1380 = .ok (.aload_n 2, 1) := by decide +kernel
theorem dL_law_1381 : decode cL_law 1381 = .ok (.aload_n 0, 1) := by decide +kernel
theorem dL_law_1382 : decode cL_law 1382 = .ok (.iload_n 3, 1) := by decide +kernel
theorem dL_law_1383 : decode cL_law 1383 = .ok (.iconst 1, 1) := by decide +kernel
theorem dL_law_1384 : decode cL_law 1384 = .ok (.iadd, 1) := by decide +kernel
theorem dL_law_1385 : decode cL_law 1385 = .ok (.iaload, 1) := by decide +kernel
theorem dL_law_1386 : decode cL_law 1386 = .ok (.aload_n 0, 1) := by decide +kernel
theorem dL_law_1387 : decode cL_law 1387 = .ok (.iload_n 3, 1) := by decide +kernel
theorem dL_law_1388 : decode cL_law 1388 = .ok (.iconst 2, 1) := by decide +kernel
theorem dL_law_1389 : decode cL_law 1389 = .ok (.iadd, 1) := by decide +kernel
theorem dL_law_1390 : decode cL_law 1390 = .ok (.iaload, 1) := by decide +kernel
theorem dL_law_1391 : decode cL_law 1391 = .ok (.aload_n 0, 1) := by decide +kernel
theorem dL_law_1392 : decode cL_law 1392 = .ok (.iload_n 3, 1) := by decide +kernel
theorem dL_law_1393 : decode cL_law 1393 = .ok (.iconst 3, 1) := by decide +kernel
theorem dL_law_1394 : decode cL_law 1394 = .ok (.iadd, 1) := by decide +kernel
theorem dL_law_1395 : decode cL_law 1395 = .ok (.iaload, 1) := by decide +kernel
theorem dL_law_1396 : decode cL_law 1396 = .ok (.aload_n 0, 1) := by decide +kernel
theorem dL_law_1397 : decode cL_law 1397 = .ok (.iload_n 3, 1) := by decide +kernel
theorem dL_law_1398 : decode cL_law 1398 = .ok (.iconst 4, 1) := by decide +kernel
theorem dL_law_1399 : decode cL_law 1399 = .ok (.iadd, 1) := by decide +kernel
theorem dL_law_1400 : decode cL_law 1400 = .ok (.iaload, 1) := by decide +kernel
theorem dL_law_1401 : decode cL_law 1401 = .ok (.aload_n 0, 1) := by decide +kernel
theorem dL_law_1402 : decode cL_law 1402 = .ok (.iload_n 3, 1) := by decide +kernel
theorem dL_law_1403 : decode cL_law 1403 = .ok (.iconst 5, 1) := by decide +kernel
theorem dL_law_1404 : decode cL_law 1404 = .ok (.iadd, 1) := by decide +kernel
theorem dL_law_1405 : decode cL_law 1405 = .ok (.iaload, 1) := by decide +kernel
theorem dL_law_1406 : decode cL_law 1406 = .ok (.invokevirtual 175, 3) := by decide +kernel
theorem dL_law_1409 : decode cL_law 1409 = .ok (.if_icmp .eq 65, 3) := by decide +kernel
theorem dL_law_1412 : decode cL_law 1412 = .ok (.iconst 0, 1) := by decide +kernel
theorem dL_law_1413 : decode cL_law 1413 = .ok (.ireturn, 1) := by decide +kernel
theorem dL_law_1414 : decode cL_law 1414 = .ok (.aload_n 1, 1) := by decide +kernel
theorem dL_law_1415 : decode cL_law 1415 = .ok (.aload_n 0, 1) := by decide +kernel
theorem dL_law_1416 : decode cL_law 1416 = .ok (.iload_n 3, 1) := by decide +kernel
theorem dL_law_1417 : decode cL_law 1417 = .ok (.iconst 1, 1) := by decide +kernel
theorem dL_law_1418 : decode cL_law 1418 = .ok (.iadd, 1) := by decide +kernel
theorem dL_law_1419 : decode cL_law 1419 = .ok (.iaload, 1) := by decide +kernel
theorem dL_law_1420 : decode cL_law 1420 = .ok (.invokevirtual 176, 3) := by decide +kernel
theorem dL_law_1423 : decode cL_law 1423 = .ok (.aload_n 2, 1) := by decide +kernel
theorem dL_law_1424 : decode cL_law 1424 = .ok (.aload_n 0, 1) := by decide +kernel
theorem dL_law_1425 : decode cL_law 1425 = .ok (.iload_n 3, 1) := by decide +kernel
theorem dL_law_1426 : decode cL_law 1426 = .ok (.iconst 1, 1) := by decide +kernel
theorem dL_law_1427 : decode cL_law 1427 = .ok (.iadd, 1) := by decide +kernel
theorem dL_law_1428 : decode cL_law 1428 = .ok (.iaload, 1) := by decide +kernel
theorem dL_law_1429 : decode cL_law 1429 = .ok (.invokevirtual 179, 3) := by decide +kernel
theorem dL_law_1432 : decode cL_law 1432 = .ok (.if_icmp .eq 42, 3) := by decide +kernel
theorem dL_law_1435 : decode cL_law 1435 = .ok (.iconst 0, 1) := by decide +kernel
theorem dL_law_1436 : decode cL_law 1436 = .ok (.ireturn, 1) := by decide +kernel
theorem dL_law_1437 : decode cL_law 1437 = .ok (.aload_n 1, 1) := by decide +kernel
theorem dL_law_1438 : decode cL_law 1438 = .ok (.aload_n 0, 1) := by decide +kernel
theorem dL_law_1439 : decode cL_law 1439 = .ok (.iload_n 3, 1) := by decide +kernel
theorem dL_law_1440 : decode cL_law 1440 = .ok (.iconst 1, 1) := by decide +kernel
theorem dL_law_1441 : decode cL_law 1441 = .ok (.iadd, 1) := by decide +kernel
theorem dL_law_1442 : decode cL_law 1442 = .ok (.iaload, 1) := by decide +kernel
theorem dL_law_1443 : decode cL_law 1443 = .ok (.invokevirtual 180, 3) := by decide +kernel
theorem dL_law_1446 : decode cL_law 1446 = .ok (.aload_n 2, 1) := by decide +kernel
theorem dL_law_1447 : decode cL_law 1447 = .ok (.aload_n 0, 1) := by decide +kernel
theorem dL_law_1448 : decode cL_law 1448 = .ok (.iload_n 3, 1) := by decide +kernel
theorem dL_law_1449 : decode cL_law 1449 = .ok (.iconst 1, 1) := by decide +kernel
theorem dL_law_1450 : decode cL_law 1450 = .ok (.iadd, 1) := by decide +kernel
theorem dL_law_1451 : decode cL_law 1451 = .ok (.iaload, 1) := by decide +kernel
theorem dL_law_1452 : decode cL_law 1452 = .ok (.invokevirtual 183, 3) := by decide +kernel
theorem dL_law_1455 : decode cL_law 1455 = .ok (.if_icmp .eq 19, 3) := by decide +kernel
theorem dL_law_1458 : decode cL_law 1458 = .ok (.iconst 0, 1) := by decide +kernel
theorem dL_law_1459 : decode cL_law 1459 = .ok (.ireturn, 1) := by decide +kernel
theorem dL_law_1460 : decode cL_law 1460 = .ok (.aload_n 1, 1) := by decide +kernel
theorem dL_law_1461 : decode cL_law 1461 = .ok (.invokevirtual 184, 3) := by decide +kernel
theorem dL_law_1464 : decode cL_law 1464 = .ok (.aload_n 2, 1) := by decide +kernel
theorem dL_law_1465 : decode cL_law 1465 = .ok (.invokevirtual 188, 3) := by decide +kernel
theorem dL_law_1468 : decode cL_law 1468 = .ok (.lcmp, 1) := by decide +kernel
theorem dL_law_1469 : decode cL_law 1469 = .ok (.ifCond .eq 5, 3) := by decide +kernel
theorem dL_law_1472 : decode cL_law 1472 = .ok (.iconst 0, 1) := by decide +kernel
theorem dL_law_1473 : decode cL_law 1473 = .ok (.ireturn, 1) := by decide +kernel
theorem dL_law_1474 : decode cL_law 1474 = .ok (.iinc 3 6, 3) := by decide +kernel
theorem dL_law_1477 : decode cL_law 1477 = .ok (.goto (-1459), 3) := by decide +kernel
theorem dL_law_1480 : decode cL_law 1480 = .ok (.iconst 1, 1) := by decide +kernel
theorem dL_law_1481 : decode cL_law 1481 = .ok (.ireturn, 1) := by decide +kernel
end
section
/-! ===== a pure picture of the machine: words, cells, the judgement RR ===== -/
def pw_nest : Cond → Bool
  | .methodLinkNest _ _ _ _ => true
  | _ => false
def pw_ok (w : Cond) : Bool := goodWord w || pw_nest w
def pw_wl : List Cond := lw_tbl.filter pw_ok
theorem pw_in {w : Cond} (i : Nat) (h : lw_tbl[i]? = some w) (h2 : pw_ok w = true) : w ∈ pw_wl := List.mem_filter.mpr ⟨List.mem_of_getElem? h, h2⟩
theorem pw_good {w : Cond} (h : w ∈ pw_wl) : pw_ok w = true := (List.mem_filter.mp h).2
theorem pw_warm {args a' : Array Value} {s U : State} (hW : s.WarmedH U.vm) {w : Cond} (hw : pw_ok w = true) (h : w.before args s = true) : w.before a' U = true := by
  unfold pw_ok at hw
  rcases Bool.or_eq_true_iff.mp hw with h1 | h1
  · exact word_at hW (good_of_word h1) h
  · cases w with
    | methodLinkNest a b x y => exact va_Nw.use rfl (va_Nw.warmM hW (va_Nw.of rfl h))
    | _ => simp [pw_nest] at h1
abbrev r_St : Type := (Nat → Nat → Int32) × (Nat → Int64)
abbrev r_Lv : Type := List (Nat × Value)
abbrev r_Kd : Type := (Nat × List (Option Nat)) ⊕ (Nat × Nat × List Nat)
abbrev r_Mt : Type := MethodName × ByteArray × Nat × Option FieldType
/-- the store after one int is written: cell k, place j -/
def wI (σ : r_St) (k j : Nat) (v : Int32) : r_St := (fun a => if a = k then upd (σ.1 k) j v else σ.1 a, σ.2)
def wL (σ : r_St) (j : Nat) (v : Int64) : r_St := (σ.1, vp_updL σ.2 j v)
def r_rv (ad : Nat → Nat) : Value → Value
  | .ref k => .ref (ad k)
  | v => v
def r_rl (ad : Nat → Nat) (q : Nat × Value) : Nat × Value := (q.1, r_rv ad q.2)
theorem r_rv_cat (ad : Nat → Nat) (v : Value) : (r_rv ad v).category = v.category := by cases v <;> rfl
def r_fs (ad : Nat → Nat) (f : Nat → Int32) : Nat → List (Option Nat) → List Value
  | _, [] => []
  | j, some r :: t => .ref (ad r) :: r_fs ad f (j + 1) t
  | j, none :: t => .int (f j) :: r_fs ad f (j + 1) t
def r_en (ad : Nat → Nat) (dA : Nat → ClassId) (σ : r_St) (k : Nat) (q : r_Kd) : va_E := match q with
  | .inl o => .inr (o.1, r_fs ad (σ.1 k) 0 o.2)
  | .inr (0, n, _) => .inl (dA 0, n, .inl (σ.1 k))
  | .inr (1, n, _) => .inl (dA 1, n, .inr (.inl σ.2))
  | .inr (2, n, _) => .inl (dA 2, n, .inl (σ.1 k))
  | .inr (_, n, es) => .inl (dA 3, n, .inr (.inr (.inr (.inr fun j => (es[j]?).map ad))))
def r_wl (ad : Nat → Nat) (dA : Nat → ClassId) (σ : r_St) (L : List r_Kd) : va_W := L.mapIdx fun k q => (ad k, r_en ad dA σ k q)
theorem r_wl_at {ad : Nat → Nat} {dA : Nat → ClassId} {σ : r_St} {L : List r_Kd} {k : Nat} {q : r_Kd} (h : L[k]? = some q) : (r_wl ad dA σ L)[k]? = some (ad k, r_en ad dA σ k q) := by
  unfold r_wl
  rw [List.getElem?_mapIdx, h]
  rfl
theorem r_wl_of {ad : Nat → Nat} {dA : Nat → ClassId} {σ : r_St} {L : List r_Kd} {k : Nat} {x : Nat × va_E} (h : (r_wl ad dA σ L)[k]? = some x) : k < L.length ∧ x.1 = ad k := by
  unfold r_wl at h
  rw [List.getElem?_mapIdx] at h
  cases hq : L[k]? with
  | none => rw [hq] at h; cases h
  | some q =>
    rw [hq] at h
    cases h
    exact ⟨(List.getElem?_eq_some_iff.mp hq).1, rfl⟩
def r_vf (ad : Nat → Nat) (f : Nat → Int32) (j : Nat) : Option Nat → Value
  | some r => .ref (ad r)
  | none => .int (f j)
theorem r_fs_at {ad : Nat → Nat} {f : Nat → Int32} : ∀ (l : List (Option Nat)) (i j : Nat) {o : Option Nat}, l[j]? = some o → (r_fs ad f i l)[j]? = some (r_vf ad f (i + j) o) := by
  intro l
  induction l with
  | nil => intro i j o h; simp at h
  | cons a t ih =>
    intro i j o h
    cases j with
    | zero =>
      simp at h
      subst h
      cases a <;> rfl
    | succ j =>
      have h1 : t[j]? = some o := by simpa using h
      have h2 := ih (i + 1) j h1
      have e : i + (j + 1) = i + 1 + j := by omega
      rw [e]
      cases a <;> simpa [r_fs] using h2
theorem r_fs_len {ad : Nat → Nat} {f : Nat → Int32} : ∀ (l : List (Option Nat)) (i : Nat), (r_fs ad f i l).length = l.length := by
  intro l
  induction l with
  | nil => intro i; rfl
  | cons a t ih => intro i; cases a <;> simp [r_fs, ih]
theorem r_fs_set {ad : Nat → Nat} {f : Nat → Int32} {v : Int32} : ∀ (l : List (Option Nat)) (i j : Nat), l[j]? = some none → (r_fs ad f i l).set j (.int v) = r_fs ad (upd f (i + j) v) i l := by
  intro l i j h
  apply List.ext_getElem?
  intro n
  rw [List.getElem?_set]
  by_cases hn : j = n
  · subst hn
    have hl : j < l.length := (List.getElem?_eq_some_iff.mp h).1
    rw [if_pos rfl, r_fs_len, if_pos hl, r_fs_at l i j h]
    simp [r_vf, upd]
  · rw [if_neg hn]
    cases ho : l[n]? with
    | none =>
      have hl : l.length ≤ n := by simpa using ho
      rw [List.getElem?_eq_none (by rw [r_fs_len]; exact hl), List.getElem?_eq_none (by rw [r_fs_len]; exact hl)]
    | some o =>
      rw [r_fs_at l i n ho, r_fs_at l i n ho]
      cases o with
      | some r => rfl
      | none =>
        have e : ¬ n = j := fun x => hn x.symm
        simp [r_vf, upd, e]
theorem r_wl_set {ad : Nat → Nat} {dA : Nat → ClassId} {σ σ' : r_St} {L : List r_Kd} {k : Nat} {q : r_Kd} {e : va_E} (h : L[k]? = some q) (he : r_en ad dA σ' k q = e) (ho : ∀ k' q', ¬ k' = k → L[k']? = some q' → r_en ad dA σ' k' q' = r_en ad dA σ k' q') : (r_wl ad dA σ L).set k (ad k, e) = r_wl ad dA σ' L := by
  apply List.ext_getElem?
  intro n
  rw [List.getElem?_set]
  have hlen : (r_wl ad dA σ L).length = L.length := by simp [r_wl]
  by_cases hn : k = n
  · subst hn
    rw [if_pos rfl, hlen, if_pos (List.getElem?_eq_some_iff.mp h).1, r_wl_at h, he]
  · rw [if_neg hn]
    cases hq : L[n]? with
    | none =>
      have hl : L.length ≤ n := by simpa using hq
      rw [List.getElem?_eq_none (by rw [hlen]; exact hl), List.getElem?_eq_none (by simpa [r_wl] using hl)]
    | some q' => rw [r_wl_at hq, r_wl_at hq, ho n q' (fun x => hn x.symm) hq]
/-- a write of an int leaves every other cell -/
theorem r_en_wI {ad : Nat → Nat} {dA : Nat → ClassId} {σ : r_St} {k j : Nat} {v : Int32} (k' : Nat) (q : r_Kd) (h : ¬ k' = k) : r_en ad dA (wI σ k j v) k' q = r_en ad dA σ k' q := by
  have e : (wI σ k j v).1 k' = σ.1 k' := by simp [wI, h]
  unfold r_en
  split <;> first | rw [e] | rfl
theorem wI_at (σ : r_St) (k j : Nat) (v : Int32) : (wI σ k j v).1 k = upd (σ.1 k) j v := by simp [wI]
def r_inj (ad : Nat → Nat) (N : Nat) : Prop := ∀ i j : Nat, i < N → j < N → ad i = ad j → i = j
def r_A (N : Nat) (ad : Nat → Nat) : Nat → Prop := fun q => ∃ k : Nat, k < N ∧ q = ad k
theorem r_D {ad : Nat → Nat} {dA : Nat → ClassId} {σ : r_St} {L : List r_Kd} (h : r_inj ad L.length) : va_D (r_A L.length ad) (r_wl ad dA σ L) := by
  refine ⟨fun i j x y hx hy e => ?_, fun k q hk => ?_⟩
  · obtain ⟨h1, e1⟩ := r_wl_of hx
    obtain ⟨h2, e2⟩ := r_wl_of hy
    exact h i j h1 h2 (by rw [← e1, ← e2, e])
  · obtain ⟨h1, e1⟩ := r_wl_of hk
    exact ⟨k, h1, e1⟩
def r_rows (b n : Nat) : List r_Kd := [.inl (3, [none, some (b + 1), some (b + 2), some (b + 3), none]), .inr (0, n, []), .inr (0, n, []), .inr (0, n, [])]
def r_laws (b : Nat) : List r_Kd := [.inl (1, [some (b + 1), some (b + 2), some (b + 3), some (b + 4), some (b + 5), none]), .inr (0, 40, []), .inr (0, 40, []), .inr (0, 40, []), .inr (0, 40, []), .inr (0, 40, [])]
/-- the cells of the class: 0 itself, 1 the text, 4 8 .. 28 the seven Rows, 32 and 38 the two Laws, 44 the Planner, 50 the row of Sheets, 51 53 55 57 these -/
def r_lay0 : List r_Kd :=
  [.inl (5, [some 1, some 4, some 8, some 12, some 16, some 20, some 24, some 28, some 32, some 38, some 44, some 50, none, none, none, none]),
   .inl (0, [some 2, some 3, none, none, none, none]), .inr (0, 23, []), .inr (0, 8, [])]
  ++ r_rows 4 8 ++ r_rows 8 4 ++ r_rows 12 10 ++ r_rows 16 12 ++ r_rows 20 6 ++ r_rows 24 8 ++ r_rows 28 8 ++ r_laws 32 ++ r_laws 38 ++
  [.inl (2, [some 45, some 46, some 47, some 48, some 49, none, none]), .inr (1, 6, []), .inr (0, 6, []), .inr (0, 6, []), .inr (0, 6, []), .inr (0, 6, []),
   .inr (3, 4, [51, 53, 55, 57]), .inl (4, [some 52, none, none]), .inr (0, 60, []), .inl (4, [some 54, none, none]), .inr (0, 60, []), .inl (4, [some 56, none, none]), .inr (0, 60, []), .inl (4, [some 58, none, none]), .inr (0, 60, [])]
/-- the cells of the reference: 0 itself, then its arrays in the order of its fields -/
def r_lay1 : List r_Kd :=
  [.inl (6, [some 1, none, none, some 2, none, none, none, some 3, some 4, some 5, some 6, some 7, some 8, some 9, some 10, some 11, some 12, some 13, some 14, some 15, some 16, none, none, none, some 17, some 18, some 19, some 20, some 21, none, some 22, some 23, none, some 24, some 25, some 26, some 27, some 28, some 29, some 30, some 31, none]),
   .inr (0, 23, []), .inr (0, 9, []), .inr (0, 5, []), .inr (0, 8, []), .inr (0, 8, []), .inr (0, 4, []), .inr (0, 10, []), .inr (0, 10, []), .inr (0, 12, []), .inr (0, 12, []), .inr (0, 12, []), .inr (0, 6, []), .inr (0, 6, []), .inr (0, 40, []), .inr (0, 80, []), .inr (0, 40, []), .inr (0, 3, []), .inr (0, 6, []), .inr (0, 6, []), .inr (0, 6, []), .inr (0, 729, []), .inr (0, 8, []), .inr (0, 8, []), .inr (0, 8, []), .inr (0, 8, []), .inr (0, 8, []), .inr (2, 4, []), .inr (0, 4, []), .inr (0, 4, []), .inr (0, 240, []), .inr (0, 60, [])]
def r_lay (z : Nat) : List r_Kd := match z with
  | 0 => r_lay0
  | _ => r_lay1
def r_ty (dA : Nat → ClassId) : List (ClassId × FieldType) := [(dA 0, .int), (dA 1, .long), (dA 2, .boolean), (dA 3, .object "TwinKings$Sheet")]
def r_ddI (j : Nat) : Int32 := match j with
  | 0 => 0
  | 1 => 1
  | 2 => 6
  | 3 => 20
  | _ => 39
def r_dd (j : Nat) : Value := .int (r_ddI j)
/-- what stays of the statics: the class's own row of days, at the cell that is numbered 1000 -/
def r_Sta (z : Nat) (ad : Nat → Nat) (U : State) : Prop := z = 0 → va_Z "TwinKings" "DIGEST_DAYS" "[I" (.ref (ad 1000)) (r_A (r_lay z).length ad) U U.heap ∧ va_T .int (ad 1000) 5 r_dd (r_A (r_lay z).length ad) U U.heap
def r_Cx (z d : Nat) (μ : r_Mt) (p : Program) (R : Room) (s : State) (m : MethodId) (args : Array Value) (c : Code) (cells slots : Nat) (D : va_G) (dA : Nat → ClassId) (ad : Nat → Nat) : Prop :=
  p.tables.exec = Jvm.exec ∧ c.code = μ.2.1 ∧ c.maxLocals = μ.2.2.1 ∧ s.vm.findClass μ.1.cls = some m.cls ∧ (∀ w ∈ pw_wl, w.before args s = true) ∧ va_K D vwCl (r_ty dA) s ∧ r_inj ad (r_lay z).length ∧ r_Sta z ad s ∧ d ≤ R.frames ∧ 64 * d ≤ R.locals ∧ cells ≤ R.cells ∧ slots ≤ R.slots
def r_Hp (z : Nat) (D : va_G) (dA : Nat → ClassId) (ad : Nat → Nat) (σ : r_St) (s : State) (H : Heap) (locs : List Loc) : Prop :=
  va_P D vwCl (r_wl ad dA σ (r_lay z)) H ∧ va_S (r_A (r_lay z).length ad) s.heap H locs
/-- a return stands at pc, of the answer r -/
def r_ret (μ : r_Mt) (pc : Nat) (r : Option Value) : Prop := match r with
  | none => decode μ.2.1 pc = .ok (.return_, 1) ∧ μ.2.2.2 = none
  | some (.int v) => decode μ.2.1 pc = .ok (.ireturn, 1) ∧ (μ.2.2.2 = some .int ∨ (μ.2.2.2 = some .boolean ∧ (v = 0 ∨ v = 1)))
  | some (.long _) => decode μ.2.1 pc = .ok (.lreturn, 1) ∧ μ.2.2.2 = some .long
  | some (.ref _) => decode μ.2.1 pc = .ok (.areturn, 1) ∧ ∃ n, μ.2.2.2 = some (.object n)
  | some .null => decode μ.2.1 pc = .ok (.areturn, 1) ∧ ∃ n, μ.2.2.2 = some (.object n)
  | _ => False
/-- the machine in method μ at pc, locals lv, stack st (references by the cells' numbers), store σ: it comes to the method's return, with an answer and a store of which Q holds -/
def RR (z d : Nat) (μ : r_Mt) (pc : Nat) (lv : r_Lv) (st : List Value) (σ : r_St) (Q : Option Value → r_St → Prop) : Prop :=
  ∀ (p : Program) (l : Launch) (e : Env) (R : Room) (s : State) (m : MethodId) (args : Array Value) (below : List Frame) (meth : Method) (c : Code) (H : Heap) (locs : List Loc) (cells slots : Nat) (Z : State → Prop) (D : va_G) (dA : Nat → ClassId) (ad : Nat → Nat) (ls : Array Slot),
    r_Cx z d μ p R s m args c cells slots D dA ad → r_Hp z D dA ad σ s H locs → lv_has ls μ.2.2.1 (lv.map (r_rl ad)) →
    (∀ (r : Option Value) (σ' : r_St) (H' : Heap) (locs' : List Loc) (pc' : Nat) (ls' : Array Slot), Q r σ' → r_Hp z D dA ad σ' s H' locs' → r_ret μ pc' r → W p l e R s m args below meth c H' locs' cells slots Z (F0 m pc' ls' (r.toList.map (r_rv ad)))) →
    W p l e R s m args below meth c H locs cells slots Z (F0 m pc ls (st.map (r_rv ad)))
def r_get (lv : r_Lv) (i : Nat) : Option Value := match lv with
  | [] => none
  | q :: t => if q.1 = i then some q.2 else r_get t i
theorem r_get_mem {lv : r_Lv} {i : Nat} {v : Value} (h : r_get lv i = some v) : (i, v) ∈ lv := by
  induction lv with
  | nil => cases h
  | cons q t ih =>
    unfold r_get at h
    split at h
    · rename_i e
      cases h
      subst e
      exact List.mem_cons_self
    · exact List.mem_cons_of_mem _ (ih h)
def r_ins (x : Nat × Value) (l : r_Lv) : r_Lv := match l with
  | [] => [x]
  | y :: t => if x.1 ≤ y.1 then x :: y :: t else y :: r_ins x t
theorem r_ins_mem {x q : Nat × Value} {l : r_Lv} (h : q ∈ r_ins x l) : q ∈ x :: l := by
  induction l with
  | nil => exact h
  | cons y t ih =>
    unfold r_ins at h
    split at h
    · exact h
    · rcases List.mem_cons.mp h with h1 | h1
      · subst h1
        exact List.mem_cons_of_mem _ List.mem_cons_self
      · rcases List.mem_cons.mp (ih h1) with h2 | h2
        · subst h2
          exact List.mem_cons_self
        · exact List.mem_cons_of_mem _ (List.mem_cons_of_mem _ h2)
def r_f1 (i : Nat) (q : Nat × Value) : Bool := !(q.1 == i) && !(q.1 + 1 == i && q.2.category == 2)
def r_f2 (i : Nat) (q : Nat × Value) : Bool := !(q.1 == i) && (!(q.1 == i + 1) && !(q.1 + 1 == i && q.2.category == 2))
def r_set1 (lv : r_Lv) (i : Nat) (v : Value) : r_Lv := r_ins (i, v) (lv.filter (r_f1 i))
def r_set2 (lv : r_Lv) (i : Nat) (v : Value) : r_Lv := r_ins (i, v) (lv.filter (r_f2 i))
theorem r_lv1 {ls : Array Slot} {nL i : Nat} {ad : Nat → Nat} {lv : r_Lv} {v : Value} (h : lv_has ls nL ((i, r_rv ad v) :: (lv.map (r_rl ad)).filter (fun q => !(q.1 == i) && !(q.1 + 1 == i && q.2.category == 2)))) : lv_has ls nL ((r_set1 lv i v).map (r_rl ad)) := by
  refine ⟨h.1, h.2.1, fun q hq => ?_⟩
  obtain ⟨x, hx, rfl⟩ := List.mem_map.mp hq
  rcases List.mem_cons.mp (r_ins_mem hx) with h1 | h1
  · subst h1
    exact h.2.2 _ List.mem_cons_self
  · obtain ⟨h2, h3⟩ := List.mem_filter.mp h1
    refine h.2.2 _ (List.mem_cons_of_mem _ (List.mem_filter.mpr ⟨List.mem_map.mpr ⟨x, h2, rfl⟩, ?_⟩))
    show (!(x.1 == i) && !(x.1 + 1 == i && (r_rv ad x.2).category == 2)) = true
    rw [r_rv_cat]
    exact h3
theorem r_lv2 {ls : Array Slot} {nL i : Nat} {ad : Nat → Nat} {lv : r_Lv} {v : Value} (h : lv_has ls nL ((i, r_rv ad v) :: (lv.map (r_rl ad)).filter (fun q => !(q.1 == i) && (!(q.1 == i + 1) && !(q.1 + 1 == i && q.2.category == 2))))) : lv_has ls nL ((r_set2 lv i v).map (r_rl ad)) := by
  refine ⟨h.1, h.2.1, fun q hq => ?_⟩
  obtain ⟨x, hx, rfl⟩ := List.mem_map.mp hq
  rcases List.mem_cons.mp (r_ins_mem hx) with h1 | h1
  · subst h1
    exact h.2.2 _ List.mem_cons_self
  · obtain ⟨h2, h3⟩ := List.mem_filter.mp h1
    refine h.2.2 _ (List.mem_cons_of_mem _ (List.mem_filter.mpr ⟨List.mem_map.mpr ⟨x, h2, rfl⟩, ?_⟩))
    show (!(x.1 == i) && (!(x.1 == i + 1) && !(x.1 + 1 == i && (r_rv ad x.2).category == 2))) = true
    rw [r_rv_cat]
    exact h3
theorem r_lat {ls : Array Slot} {nL i : Nat} {ad : Nat → Nat} {lv : r_Lv} {v : Value} (h : lv_has ls nL (lv.map (r_rl ad))) (hg : r_get lv i = some v) : ls[i]? = some (.val (r_rv ad v)) := h.2.2 (i, r_rv ad v) (List.mem_map.mpr ⟨(i, v), r_get_mem hg, rfl⟩)
theorem RR.post {z d : Nat} {μ : r_Mt} {pc : Nat} {lv : r_Lv} {st : List Value} {σ : r_St} {Q Q' : Option Value → r_St → Prop} (h : RR z d μ pc lv st σ Q) (hQ : ∀ r σ', Q r σ' → Q' r σ') : RR z d μ pc lv st σ Q' :=
  fun p l e R s m args below meth c H locs cells slots Z D dA ad ls h1 h2 h3 h4 => h p l e R s m args below meth c H locs cells slots Z D dA ad ls h1 h2 h3 fun r σ' H' locs' pc' ls' a b c => h4 r σ' H' locs' pc' ls' (hQ _ _ a) b c
theorem RR.lvs {z d : Nat} {μ : r_Mt} {pc : Nat} {lv lv' : r_Lv} {st : List Value} {σ : r_St} {Q : Option Value → r_St → Prop} (hl : ∀ q ∈ lv', q ∈ lv) (h : RR z d μ pc lv' st σ Q) : RR z d μ pc lv st σ Q :=
  fun p l e R s m args below meth c H locs cells slots Z D dA ad ls h1 h2 h3 h4 => h p l e R s m args below meth c H locs cells slots Z D dA ad ls h1 h2 ⟨h3.1, h3.2.1, fun q hq => by
    obtain ⟨x, hx, rfl⟩ := List.mem_map.mp hq
    exact h3.2.2 _ (List.mem_map.mpr ⟨x, hl x hx, rfl⟩)⟩ h4
theorem RR.deep {z d d' : Nat} {μ : r_Mt} {pc : Nat} {lv : r_Lv} {st : List Value} {σ : r_St} {Q : Option Value → r_St → Prop} (hd : d ≤ d') (h : RR z d μ pc lv st σ Q) : RR z d' μ pc lv st σ Q :=
  fun p l e R s m args below meth c H locs cells slots Z D dA ad ls h1 h2 h3 h4 => h p l e R s m args below meth c H locs cells slots Z D dA ad ls ⟨h1.1, h1.2.1, h1.2.2.1, h1.2.2.2.1, h1.2.2.2.2.1, h1.2.2.2.2.2.1, h1.2.2.2.2.2.2.1, h1.2.2.2.2.2.2.2.1, Nat.le_trans hd h1.2.2.2.2.2.2.2.2.1, Nat.le_trans (Nat.mul_le_mul_left 64 hd) h1.2.2.2.2.2.2.2.2.2.1, h1.2.2.2.2.2.2.2.2.2.2⟩ h2 h3 h4
end
section
/-! ===== instructions that leave the store: one function, one theorem ===== -/
def r_len : Instr → Nat
  | .iload _ => 2
  | .lload _ => 2
  | .aload _ => 2
  | .istore _ => 2
  | .lstore _ => 2
  | .astore _ => 2
  | .bipush _ => 2
  | .sipush _ => 3
  | .iinc _ _ => 3
  | .goto _ => 3
  | .ifnonnull _ => 3
  | .ifCond _ _ => 3
  | .if_icmp _ _ => 3
  | _ => 1
def r_to (pc : Nat) (off : Int) : Option Nat := match (pc : Int) + off with
  | .ofNat t => some t
  | .negSucc _ => none
theorem r_to_eq {pc t : Nat} {off : Int} (h : r_to pc off = some t) : (pc : Int) + off = (t : Int) := by
  unfold r_to at h
  split at h
  · rename_i t' e
    cases h
    exact e
  · cases h
def r_lI (lv : r_Lv) (st : List Value) (i n : Nat) : Option (Nat × r_Lv × List Value) := match r_get lv i with
  | some (.int x) => some (n, lv, .int x :: st)
  | _ => none
def r_lL (lv : r_Lv) (st : List Value) (i n : Nat) : Option (Nat × r_Lv × List Value) := match r_get lv i with
  | some (.long x) => some (n, lv, .long x :: st)
  | _ => none
def r_lA (lv : r_Lv) (st : List Value) (i n : Nat) : Option (Nat × r_Lv × List Value) := match r_get lv i with
  | some (.ref x) => some (n, lv, .ref x :: st)
  | some .null => some (n, lv, .null :: st)
  | _ => none
def r_sI (nL : Nat) (lv : r_Lv) (st : List Value) (i n : Nat) : Option (Nat × r_Lv × List Value) := match st with
  | .int x :: t => if i < nL then some (n, r_set1 lv i (.int x), t) else none
  | _ => none
def r_sL (nL : Nat) (lv : r_Lv) (st : List Value) (i n : Nat) : Option (Nat × r_Lv × List Value) := match st with
  | .long x :: t => if i + 1 < nL then some (n, r_set2 lv i (.long x), t) else none
  | _ => none
def r_sA (nL : Nat) (lv : r_Lv) (st : List Value) (i n : Nat) : Option (Nat × r_Lv × List Value) := match st with
  | .ref x :: t => if i < nL then some (n, r_set1 lv i (.ref x), t) else none
  | .null :: t => if i < nL then some (n, r_set1 lv i .null, t) else none
  | _ => none
def r_bI (n : Nat) (lv : r_Lv) (st : List Value) (f : Int32 → Int32 → Int32) : Option (Nat × r_Lv × List Value) := match st with
  | .int y :: .int x :: t => some (n, lv, .int (f x y) :: t)
  | _ => none
def r_bL (n : Nat) (lv : r_Lv) (st : List Value) (f : Int64 → Int64 → Int64) : Option (Nat × r_Lv × List Value) := match st with
  | .long y :: .long x :: t => some (n, lv, .long (f x y) :: t)
  | _ => none
def r_bS (n : Nat) (lv : r_Lv) (st : List Value) (f : Int64 → Int32 → Int64) : Option (Nat × r_Lv × List Value) := match st with
  | .int y :: .long x :: t => some (n, lv, .long (f x y) :: t)
  | _ => none
def r_uI (n : Nat) (lv : r_Lv) (st : List Value) (f : Int32 → Int32) : Option (Nat × r_Lv × List Value) := match st with
  | .int x :: t => some (n, lv, .int (f x) :: t)
  | _ => none
def r_step (nL pc : Nat) (lv : r_Lv) (st : List Value) : Instr → Option (Nat × r_Lv × List Value)
  | .iconst n => some (pc + 1, lv, .int (Int32.ofInt n) :: st)
  | .bipush n => some (pc + 2, lv, .int (Int8.ofInt n).toInt32 :: st)
  | .sipush n => some (pc + 3, lv, .int (Int16.ofInt n).toInt32 :: st)
  | .lconst n => some (pc + 1, lv, .long (Int64.ofNat (n : Nat)) :: st)
  | .aconst_null => some (pc + 1, lv, .null :: st)
  | .iload i => r_lI lv st i (pc + 2)
  | .iload_n k => r_lI lv st (k : Nat) (pc + 1)
  | .lload i => r_lL lv st i (pc + 2)
  | .lload_n k => r_lL lv st (k : Nat) (pc + 1)
  | .aload i => r_lA lv st i (pc + 2)
  | .aload_n k => r_lA lv st (k : Nat) (pc + 1)
  | .istore i => r_sI nL lv st i (pc + 2)
  | .istore_n k => r_sI nL lv st (k : Nat) (pc + 1)
  | .lstore i => r_sL nL lv st i (pc + 2)
  | .lstore_n k => r_sL nL lv st (k : Nat) (pc + 1)
  | .astore i => r_sA nL lv st i (pc + 2)
  | .astore_n k => r_sA nL lv st (k : Nat) (pc + 1)
  | .iinc i n => match r_get lv i with
    | some (.int x) => if i < nL then some (pc + 3, r_set1 lv i (.int (x + Int32.ofInt n)), st) else none
    | _ => none
  | .iadd => r_bI (pc + 1) lv st fun x y => x + y
  | .isub => r_bI (pc + 1) lv st fun x y => x - y
  | .imul => r_bI (pc + 1) lv st fun x y => x * y
  | .iand => r_bI (pc + 1) lv st fun x y => x &&& y
  | .ior => r_bI (pc + 1) lv st fun x y => x ||| y
  | .ixor => r_bI (pc + 1) lv st fun x y => x ^^^ y
  | .ishl => r_bI (pc + 1) lv st fun x y => x <<< (y &&& 31)
  | .ishr => r_bI (pc + 1) lv st fun x y => x >>> (y &&& 31)
  | .iushr => r_bI (pc + 1) lv st fun x y => (x.toUInt32 >>> (y.toUInt32 &&& Int32.toUInt32 31)).toInt32
  | .ladd => r_bL (pc + 1) lv st fun x y => x + y
  | .lsub => r_bL (pc + 1) lv st fun x y => x - y
  | .lmul => r_bL (pc + 1) lv st fun x y => x * y
  | .land => r_bL (pc + 1) lv st fun x y => x &&& y
  | .lor => r_bL (pc + 1) lv st fun x y => x ||| y
  | .lxor => r_bL (pc + 1) lv st fun x y => x ^^^ y
  | .lushr => r_bS (pc + 1) lv st fun x y => (x.toUInt64 >>> (y.toInt64.toUInt64 &&& Int64.toUInt64 63)).toInt64
  | .lshl => r_bS (pc + 1) lv st fun x y => x <<< (y.toInt64 &&& 63)
  | .lshr => r_bS (pc + 1) lv st fun x y => x >>> (y.toInt64 &&& 63)
  | .i2b => r_uI (pc + 1) lv st fun x => x.toInt8.toInt32
  | .i2s => r_uI (pc + 1) lv st fun x => x.toInt16.toInt32
  | .i2l => match st with
    | .int x :: t => some (pc + 1, lv, .long x.toInt64 :: t)
    | _ => none
  | .l2i => match st with
    | .long x :: t => some (pc + 1, lv, .int x.toInt32 :: t)
    | _ => none
  | .lcmp => match st with
    | .long y :: .long x :: t => some (pc + 1, lv, .int (lg_cmp x y) :: t)
    | _ => none
  | .dup => match st with
    | .int x :: t => some (pc + 1, lv, .int x :: .int x :: t)
    | .ref x :: t => some (pc + 1, lv, .ref x :: .ref x :: t)
    | _ => none
  | .dup2 => match st with
    | .int x :: .ref y :: t => some (pc + 1, lv, .int x :: .ref y :: .int x :: .ref y :: t)
    | _ => none
  | .pop => match st with
    | .int _ :: t => some (pc + 1, lv, t)
    | _ => none
  | .goto off => match r_to pc off with
    | some t => some (t, lv, st)
    | none => none
  | .ifnonnull off => match st with
    | .ref _ :: rest => match r_to pc off with
      | some t => some (t, lv, rest)
      | none => none
    | .null :: rest => some (pc + 3, lv, rest)
    | _ => none
  | _ => none
section RS
variable {z d : Nat} {μ : r_Mt} {pc : Nat} {lv : r_Lv} {st : List Value} {σ : r_St} {Q : Option Value → r_St → Prop}
set_option maxHeartbeats 4000000 in
theorem RR.s {i : Instr} {q : Nat × r_Lv × List Value} (hd : decode μ.2.1 pc = .ok (i, r_len i)) (hs : r_step μ.2.2.1 pc lv st i = some q) (h : RR z d μ q.1 q.2.1 q.2.2 σ Q) : RR z d μ pc lv st σ Q := by
  intro p l e R s m args below meth c H locs cells slots Z D dA ad ls hC hH hL hF
  have hx := hC.1
  have hb := hC.2.1
  have go : ∀ {pc' : Nat} {lv' : r_Lv} {st' : List Value} {ls' : Array Slot}, some (pc', lv', st') = some q → lv_has ls' μ.2.2.1 (lv'.map (r_rl ad)) → W p l e R s m args below meth c H locs cells slots Z (F0 m pc' ls' (st'.map (r_rv ad))) := by
    intro pc' lv' st' ls' e1 h1
    cases e1
    exact h p l e R s m args below meth c H locs cells slots Z D dA ad ls' hC hH h1 hF
  cases i with
  | iconst n => exact lv_iconst hx hb hd rfl (go hs hL)
  | bipush n => exact lv_bipush hx hb hd rfl (go hs hL)
  | sipush n => exact lv_sipush hx hb hd rfl (go hs hL)
  | lconst n => exact lv_lconst hx hb hd rfl (go hs hL)
  | aconst_null => exact lv_null hx hb hd (go hs hL)
  | iload i =>
    simp only [r_step, r_lI] at hs
    split at hs
    · rename_i x hg
      exact lv_iload hx hb hd (r_lat hL hg) (go hs hL)
    · cases hs
  | iload_n k =>
    simp only [r_step, r_lI] at hs
    split at hs
    · rename_i x hg
      exact lv_iload_n hx hb hd rfl (r_lat hL hg) (go hs hL)
    · cases hs
  | lload i =>
    simp only [r_step, r_lL] at hs
    split at hs
    · rename_i x hg
      exact lv_lload hx hb hd (r_lat hL hg) (go hs hL)
    · cases hs
  | lload_n k =>
    simp only [r_step, r_lL] at hs
    split at hs
    · rename_i x hg
      exact lv_lload_n hx hb hd rfl (r_lat hL hg) (go hs hL)
    · cases hs
  | aload i =>
    simp only [r_step, r_lA] at hs
    split at hs
    · rename_i x hg
      exact lv_aload hx hb hd (r_lat hL hg) (go hs hL)
    · rename_i hg
      exact lv_aloadN hx hb hd (r_lat hL hg) (go hs hL)
    · cases hs
  | aload_n k =>
    simp only [r_step, r_lA] at hs
    split at hs
    · rename_i x hg
      exact lv_aload_n hx hb hd rfl (r_lat hL hg) (go hs hL)
    · rename_i hg
      exact lv_aload_nN hx hb hd rfl (r_lat hL hg) (go hs hL)
    · cases hs
  | istore i =>
    simp only [r_step, r_sI] at hs
    split at hs
    · split at hs
      · rename_i hn
        exact lv_istore hx hb hd hL hn rfl (fun ls' h' => go hs (r_lv1 (v := .int _) h'))
      · cases hs
    · cases hs
  | istore_n k =>
    simp only [r_step, r_sI] at hs
    split at hs
    · split at hs
      · rename_i hn
        exact lv_istore_n hx hb hd rfl hL hn rfl (fun ls' h' => go hs (r_lv1 (v := .int _) h'))
      · cases hs
    · cases hs
  | lstore i =>
    simp only [r_step, r_sL] at hs
    split at hs
    · split at hs
      · rename_i hn
        exact lv_lstore hx hb hd hL hn rfl (fun ls' h' => go hs (r_lv2 (v := .long _) h'))
      · cases hs
    · cases hs
  | lstore_n k =>
    simp only [r_step, r_sL] at hs
    split at hs
    · split at hs
      · rename_i hn
        exact lv_lstore_n hx hb hd rfl hL hn rfl (fun ls' h' => go hs (r_lv2 (v := .long _) h'))
      · cases hs
    · cases hs
  | astore i =>
    simp only [r_step, r_sA] at hs
    split at hs
    · split at hs
      · rename_i hn
        exact lv_astore hx hb hd hL hn rfl (fun ls' h' => go hs (r_lv1 (v := .ref _) h'))
      · cases hs
    · split at hs
      · rename_i hn
        exact lv_astoreN hx hb hd hL hn rfl (fun ls' h' => go hs (r_lv1 (v := .null) h'))
      · cases hs
    · cases hs
  | astore_n k =>
    simp only [r_step, r_sA] at hs
    split at hs
    · split at hs
      · rename_i hn
        exact lv_astore_n hx hb hd rfl hL hn rfl (fun ls' h' => go hs (r_lv1 (v := .ref _) h'))
      · cases hs
    · split at hs
      · rename_i hn
        exact lv_astore_nN hx hb hd rfl hL hn rfl (fun ls' h' => go hs (r_lv1 (v := .null) h'))
      · cases hs
    · cases hs
  | iinc i n =>
    simp only [r_step] at hs
    split at hs
    · rename_i x hg
      split at hs
      · rename_i hn
        obtain ⟨k, hk⟩ := List.getElem?_of_mem (List.mem_map.mpr ⟨(i, Value.int x), r_get_mem hg, rfl⟩ : (i, Value.int x) ∈ lv.map (r_rl ad))
        exact lv_iinc hx hb hd hL hk rfl hn rfl (fun ls' h' => go hs (r_lv1 (v := .int _) h'))
      · cases hs
    · cases hs
  | iadd => simp only [r_step, r_bI] at hs; split at hs <;> first | exact lv_iadd hx hb hd (go hs hL) | cases hs
  | isub => simp only [r_step, r_bI] at hs; split at hs <;> first | exact lv_isub hx hb hd (go hs hL) | cases hs
  | imul => simp only [r_step, r_bI] at hs; split at hs <;> first | exact lv_imul hx hb hd (go hs hL) | cases hs
  | iand => simp only [r_step, r_bI] at hs; split at hs <;> first | exact lv_iand hx hb hd (go hs hL) | cases hs
  | ior => simp only [r_step, r_bI] at hs; split at hs <;> first | exact lv_ior hx hb hd (go hs hL) | cases hs
  | ixor => simp only [r_step, r_bI] at hs; split at hs <;> first | exact lv_ixor hx hb hd (go hs hL) | cases hs
  | ishl => simp only [r_step, r_bI] at hs; split at hs <;> first | exact lv_ishl hx hb hd (go hs hL) | cases hs
  | ishr => simp only [r_step, r_bI] at hs; split at hs <;> first | exact lv_ishr hx hb hd (go hs hL) | cases hs
  | iushr => simp only [r_step, r_bI] at hs; split at hs <;> first | exact lv_iushr hx hb hd rfl (go hs hL) | cases hs
  | ladd => simp only [r_step, r_bL] at hs; split at hs <;> first | exact lv_ladd hx hb hd (go hs hL) | cases hs
  | lsub => simp only [r_step, r_bL] at hs; split at hs <;> first | exact lv_lsub hx hb hd (go hs hL) | cases hs
  | lmul => simp only [r_step, r_bL] at hs; split at hs <;> first | exact lv_lmul hx hb hd (go hs hL) | cases hs
  | land => simp only [r_step, r_bL] at hs; split at hs <;> first | exact lv_land hx hb hd (go hs hL) | cases hs
  | lor => simp only [r_step, r_bL] at hs; split at hs <;> first | exact lv_lor hx hb hd (go hs hL) | cases hs
  | lxor => simp only [r_step, r_bL] at hs; split at hs <;> first | exact lv_lxor hx hb hd (go hs hL) | cases hs
  | lushr => simp only [r_step, r_bS] at hs; split at hs <;> first | exact lv_lushr hx hb hd rfl (go hs hL) | cases hs
  | lshl => simp only [r_step, r_bS] at hs; split at hs <;> first | exact lv_lshl hx hb hd rfl (go hs hL) | cases hs
  | lshr => simp only [r_step, r_bS] at hs; split at hs <;> first | exact lv_lshr hx hb hd rfl (go hs hL) | cases hs
  | i2b => simp only [r_step, r_uI] at hs; split at hs <;> first | exact lv_i2b hx hb hd rfl (go hs hL) | cases hs
  | i2s => simp only [r_step, r_uI] at hs; split at hs <;> first | exact lv_i2s hx hb hd rfl (go hs hL) | cases hs
  | i2l => simp only [r_step] at hs; split at hs <;> first | exact lv_i2l hx hb hd rfl (go hs hL) | cases hs
  | l2i => simp only [r_step] at hs; split at hs <;> first | exact lv_l2i hx hb hd rfl (go hs hL) | cases hs
  | lcmp => simp only [r_step] at hs; split at hs <;> first | exact W.lcmp hx hb hd (go hs hL) | cases hs
  | dup => simp only [r_step] at hs; split at hs <;> first | exact lv_dup (va := .int _) hx hb hd rfl (go hs hL) | exact lv_dup (va := .ref _) hx hb hd rfl (go hs hL) | cases hs
  | dup2 => simp only [r_step] at hs; split at hs <;> first | exact lv_dup2_11 (va := .int _) (vb := .ref _) hx hb hd rfl rfl (go hs hL) | cases hs
  | pop => simp only [r_step] at hs; split at hs <;> first | exact lv_pop (va := .int _) hx hb hd rfl (go hs hL) | cases hs
  | goto off =>
    simp only [r_step] at hs
    split at hs
    · rename_i t ht
      exact lv_goto hx hb hd (r_to_eq ht) (go hs hL)
    · cases hs
  | ifnonnull off =>
    simp only [r_step] at hs
    split at hs
    · split at hs
      · rename_i t ht
        exact lv_ifnonnull hx hb hd (r_to_eq ht) (go hs hL)
      · cases hs
    · exact lv_ifnonnullN hx hb hd (go hs hL)
    · cases hs
  | _ => cases hs
def r_br (pc : Nat) (st : List Value) : Instr → Option (Prop × Nat × List Value)
  | .ifCond o off => match st, r_to pc off with
    | .int x :: t, some n => match o with
      | .eq => some (x = 0, n, t)
      | .ne => some (¬ x = 0, n, t)
      | .lt => some (x < 0, n, t)
      | .ge => some (0 ≤ x, n, t)
      | .gt => some (0 < x, n, t)
      | .le => some (x ≤ 0, n, t)
    | _, _ => none
  | .if_icmp o off => match st, r_to pc off with
    | .int y :: .int x :: t, some n => match o with
      | .eq => some (x = y, n, t)
      | .ne => some (¬ x = y, n, t)
      | .lt => some (x < y, n, t)
      | .ge => some (y ≤ x, n, t)
      | .gt => some (y < x, n, t)
      | .le => some (x ≤ y, n, t)
    | _, _ => none
  | _ => none
set_option maxHeartbeats 4000000 in
theorem RR.br {i : Instr} {P : Prop} {t : Nat} {rest : List Value} (hd : decode μ.2.1 pc = .ok (i, r_len i)) (hs : r_br pc st i = some (P, t, rest)) (kt : P → RR z d μ t lv rest σ Q) (kf : ¬ P → RR z d μ (pc + 3) lv rest σ Q) : RR z d μ pc lv st σ Q := by
  intro p l e R s m args below meth c H locs cells slots Z D dA ad ls hC hH hL hF
  have hx := hC.1
  have hb := hC.2.1
  have g1 : P → W p l e R s m args below meth c H locs cells slots Z (F0 m t ls (rest.map (r_rv ad))) := fun q => kt q p l e R s m args below meth c H locs cells slots Z D dA ad ls hC hH hL hF
  have g2 : ¬ P → W p l e R s m args below meth c H locs cells slots Z (F0 m (pc + 3) ls (rest.map (r_rv ad))) := fun q => kf q p l e R s m args below meth c H locs cells slots Z D dA ad ls hC hH hL hF
  cases i with
  | ifCond o off =>
    simp only [r_br] at hs
    split at hs
    · rename_i x t' n ht
      cases o <;> cases hs
      · exact lv_if_eq hx hb hd (r_to_eq ht) g1 g2
      · exact lv_if_ne hx hb hd (r_to_eq ht) g1 (fun q => g2 (fun q2 => q2 q))
      · exact lv_if_lt hx hb hd (r_to_eq ht) g1 g2
      · exact lv_if_ge hx hb hd (r_to_eq ht) g1 g2
      · exact lv_if_gt hx hb hd (r_to_eq ht) g1 g2
      · exact lv_if_le hx hb hd (r_to_eq ht) g1 g2
    · cases hs
  | if_icmp o off =>
    simp only [r_br] at hs
    split at hs
    · rename_i y x t' n ht
      cases o <;> cases hs
      · exact lv_icmp_eq hx hb hd (r_to_eq ht) g1 g2
      · exact lv_icmp_ne hx hb hd (r_to_eq ht) g1 (fun q => g2 (fun q2 => q2 q))
      · exact lv_icmp_lt hx hb hd (r_to_eq ht) g1 g2
      · exact lv_icmp_ge hx hb hd (r_to_eq ht) g1 g2
      · exact lv_icmp_gt hx hb hd (r_to_eq ht) g1 g2
      · exact lv_icmp_le hx hb hd (r_to_eq ht) g1 g2
    · cases hs
  | _ => cases hs
end RS
end
section
/-! ===== fields, arrays, constants, division, switches, returns ===== -/
def r_FL (own : String) (idx ci j : Nat) : Prop := ∃ (C : String) (T : u_T) (N : Nat), vwCl[ci]? = some (C, T, N) ∧ j < N ∧ Cond.fieldLink own idx (T j).1 (T j).2.1 (T j).2.2.1 ∈ pw_wl ∧ ∀ w ∈ u_ws C T N, w ∈ pw_wl
def r_FP (own : String) (idx ci j : Nat) (ty : FieldType) : Prop := ∃ (C : String) (T : u_T) (N : Nat) (ty0 : Nat → FieldType), vwCl[ci]? = some (C, T, N) ∧ j < N ∧ Cond.fieldLink own idx (T j).1 (T j).2.1 (T j).2.2.1 ∈ pw_wl ∧ (∀ w ∈ u_ws C T N, w ∈ pw_wl) ∧
  (∀ k, k < N → parseFieldDescriptor (T k).2.2.1 = some (ty0 k)) ∧ (∀ a, a < N → ∀ b, b < N → a ≠ b → (T a).2.1 ≠ (T b).2.1) ∧ (T j).2.2.2 = false ∧ parseFieldDescriptor (T j).2.2.1 = some ty
theorem r_Hp.put {z : Nat} {D : va_G} {dA : Nat → ClassId} {ad : Nat → Nat} {σ σ' : r_St} {s : State} {H1 : Heap} {locs1 : List Loc} {k : Nat} {q : r_Kd} {e : va_E} (h : (r_lay z)[k]? = some q) (he : r_en ad dA σ' k q = e) (ho : ∀ k' q', ¬ k' = k → (r_lay z)[k']? = some q' → r_en ad dA σ' k' q' = r_en ad dA σ k' q') (hP : va_P D vwCl ((r_wl ad dA σ (r_lay z)).set k (ad k, e)) H1) (hS : va_S (r_A (r_lay z).length ad) s.heap H1 locs1) : r_Hp z D dA ad σ' s H1 locs1 := ⟨by rw [← r_wl_set h he ho]; exact hP, hS⟩
section RC
variable {z d : Nat} {μ : r_Mt} {pc : Nat} {lv : r_Lv} {st rest : List Value} {σ : r_St} {Q : Option Value → r_St → Prop}
theorem RR.getI {idx ci j k : Nat} {fs : List (Option Nat)} (hd : decode μ.2.1 pc = .ok (.getfield idx, 3)) (hf : r_FL μ.1.cls idx ci j) (hl : (r_lay z)[k]? = some (.inl (ci, fs))) (hv : fs[j]? = some none) (h : RR z d μ (pc + 3) lv (.int (σ.1 k j) :: rest) σ Q) : RR z d μ pc lv (.ref k :: rest) σ Q := by
  intro p l e R s m args below meth c H locs cells slots Z D dA ad ls hC hH hL hF
  obtain ⟨hx, hb, hml, hown, hts, hK, hC7⟩ := id hC
  obtain ⟨C, T, N, h1, h2, h3, h4⟩ := hf
  refine va_get (D := D) (ci := ci) (v := .int (σ.1 k j)) (C := C) (T := T) (N := N) hx hb hts h4 hown hK hH.1 k (r_wl_at hl) h1 j h2 (hts _ h3) (fun _ h9 => h9) ?_ hd (h p l e R s m args below meth c H locs cells slots Z D dA ad ls hC hH hL hF)
  rw [r_fs_at fs 0 j hv, Nat.zero_add]
  rfl
theorem RR.getR {idx ci j k r : Nat} {fs : List (Option Nat)} (hd : decode μ.2.1 pc = .ok (.getfield idx, 3)) (hf : r_FL μ.1.cls idx ci j) (hl : (r_lay z)[k]? = some (.inl (ci, fs))) (hv : fs[j]? = some (some r)) (h : RR z d μ (pc + 3) lv (.ref r :: rest) σ Q) : RR z d μ pc lv (.ref k :: rest) σ Q := by
  intro p l e R s m args below meth c H locs cells slots Z D dA ad ls hC hH hL hF
  obtain ⟨hx, hb, hml, hown, hts, hK, hC7⟩ := id hC
  obtain ⟨C, T, N, h1, h2, h3, h4⟩ := hf
  refine va_get (D := D) (ci := ci) (v := .ref (ad r)) (C := C) (T := T) (N := N) hx hb hts h4 hown hK hH.1 k (r_wl_at hl) h1 j h2 (hts _ h3) (fun _ h9 => h9) ?_ hd (h p l e R s m args below meth c H locs cells slots Z D dA ad ls hC hH hL hF)
  rw [r_fs_at fs 0 j hv]
  rfl
theorem RR.putT {idx ci j k : Nat} {fs : List (Option Nat)} {ty : FieldType} {v : Int32} (hd : decode μ.2.1 pc = .ok (.putfield idx, 3)) (hf : r_FP μ.1.cls idx ci j ty) (hl : (r_lay z)[k]? = some (.inl (ci, fs))) (hv : fs[j]? = some none) (hn : narrow ty (.int v) = .int v) (hfit : fits ty (.int v) = true) (h : RR z d μ (pc + 3) lv rest (wI σ k j v) Q) : RR z d μ pc lv (.int v :: .ref k :: rest) σ Q := by
  intro p l e R s m args below meth c H locs cells slots Z D dA ad ls hC hH hL hF
  obtain ⟨hx, hb, hml, hown, hts, hK, hinj, hC7⟩ := id hC
  obtain ⟨C, T, N, ty0, h1, h2, h3, h4, h5, h6, h7, h8⟩ := hf
  refine va_put (D := D) (ci := ci) (v := .int v) (ty := ty) (C := C) (T := T) (N := N) hx hb hts h4 ty0 h5 h6 hown hK hH.1 (r_D hinj) hH.2 k (r_wl_at hl) h1 j h2 (hts _ h3) (fun _ h9 => h9) h7 h8 hn hfit (by rw [r_fs_len]; exact (List.getElem?_eq_some_iff.mp hv).1) hd (fun H1 locs1 hP1 hD1 hS1 => ?_)
  refine h p l e R s m args below meth c H1 locs1 cells slots Z D dA ad ls hC (r_Hp.put hl ?_ (fun k' q' hk _ => r_en_wI k' q' hk) hP1 hS1) hL hF
  show (Sum.inr (ci, r_fs ad ((wI σ k j v).1 k) 0 fs) : va_E) = Sum.inr (ci, (r_fs ad (σ.1 k) 0 fs).set j (.int v))
  rw [wI_at, r_fs_set fs 0 j hv, Nat.zero_add]
theorem RR.putI {idx ci j k : Nat} {fs : List (Option Nat)} {v : Int32} (hd : decode μ.2.1 pc = .ok (.putfield idx, 3)) (hf : r_FP μ.1.cls idx ci j .int) (hl : (r_lay z)[k]? = some (.inl (ci, fs))) (hv : fs[j]? = some none) (h : RR z d μ (pc + 3) lv rest (wI σ k j v) Q) : RR z d μ pc lv (.int v :: .ref k :: rest) σ Q := RR.putT hd hf hl hv rfl rfl h
theorem RR.iald {k n j : Nat} {es : List Nat} {i : Int32} (hd : decode μ.2.1 pc = .ok (.iaload, 1)) (hl : (r_lay z)[k]? = some (.inr (0, n, es))) (hi : i = nI j) (hj : j < n) (h : RR z d μ (pc + 1) lv (.int (σ.1 k j) :: rest) σ Q) (hn : n < 2147483648 := by decide) : RR z d μ pc lv (.int i :: .ref k :: rest) σ Q := by
  intro p l e R s m args below meth c H locs cells slots Z D dA ad ls hC hH hL hF
  obtain ⟨hx, hb, hml, hown, hts, hK, hinj, hC7⟩ := id hC
  subst hi
  refine va_iald (D := D) (f := σ.1 k) hx hb hK hH.1 k 0 (r_wl_at hl) rfl (vp_in_nI hj hn) hd ?_
  rw [nI_clamp (by omega)]
  exact h p l e R s m args below meth c H locs cells slots Z D dA ad ls hC hH hL hF
theorem RR.iast {k n j : Nat} {es : List Nat} {i x : Int32} (hd : decode μ.2.1 pc = .ok (.iastore, 1)) (hl : (r_lay z)[k]? = some (.inr (0, n, es))) (hi : i = nI j) (hj : j < n) (h : RR z d μ (pc + 1) lv rest (wI σ k j x) Q) (hn : n < 2147483648 := by decide) : RR z d μ pc lv (.int x :: .int i :: .ref k :: rest) σ Q := by
  intro p l e R s m args below meth c H locs cells slots Z D dA ad ls hC hH hL hF
  obtain ⟨hx, hb, hml, hown, hts, hK, hinj, hC7⟩ := id hC
  subst hi
  refine va_iast (D := D) (f := σ.1 k) hx hb hK hH.1 (r_D hinj) hH.2 k 0 (r_wl_at hl) rfl (vp_in_nI hj hn) hd (fun H1 locs1 hP1 hD1 hS1 => ?_)
  rw [nI_clamp (by omega)] at hP1
  refine h p l e R s m args below meth c H1 locs1 cells slots Z D dA ad ls hC (r_Hp.put hl ?_ (fun k' q' hk _ => r_en_wI k' q' hk) hP1 hS1) hL hF
  show (Sum.inl (dA 0, n, Sum.inl ((wI σ k j x).1 k)) : va_E) = Sum.inl (dA 0, n, Sum.inl (upd (σ.1 k) j x))
  rw [wI_at]
theorem RR.bald {k n j : Nat} {es : List Nat} {i : Int32} (hd : decode μ.2.1 pc = .ok (.baload, 1)) (hl : (r_lay z)[k]? = some (.inr (2, n, es))) (hi : i = nI j) (hj : j < n) (h : RR z d μ (pc + 1) lv (.int (σ.1 k j) :: rest) σ Q) (hn : n < 2147483648 := by decide) : RR z d μ pc lv (.int i :: .ref k :: rest) σ Q := by
  intro p l e R s m args below meth c H locs cells slots Z D dA ad ls hC hH hL hF
  obtain ⟨hx, hb, hml, hown, hts, hK, hinj, hC7⟩ := id hC
  subst hi
  refine va_zald (D := D) (f := σ.1 k) hx hb hK hH.1 k 2 (r_wl_at hl) rfl (vp_in_nI hj hn) hd ?_
  rw [nI_clamp (by omega)]
  exact h p l e R s m args below meth c H locs cells slots Z D dA ad ls hC hH hL hF
theorem RR.bast {k n j : Nat} {es : List Nat} {i x : Int32} (hd : decode μ.2.1 pc = .ok (.bastore, 1)) (hl : (r_lay z)[k]? = some (.inr (2, n, es))) (hi : i = nI j) (hj : j < n) (hx2 : vp_nar .boolean x = x) (h : RR z d μ (pc + 1) lv rest (wI σ k j x) Q) (hn : n < 2147483648 := by decide) : RR z d μ pc lv (.int x :: .int i :: .ref k :: rest) σ Q := by
  intro p l e R s m args below meth c H locs cells slots Z D dA ad ls hC hH hL hF
  obtain ⟨hx, hb, hml, hown, hts, hK, hinj, hC7⟩ := id hC
  subst hi
  refine va_zast (D := D) (f := σ.1 k) hx hb hK hH.1 (r_D hinj) hH.2 k 2 (r_wl_at hl) rfl (vp_in_nI hj hn) hd (fun H1 locs1 hP1 hD1 hS1 => ?_)
  rw [nI_clamp (by omega), hx2] at hP1
  refine h p l e R s m args below meth c H1 locs1 cells slots Z D dA ad ls hC (r_Hp.put hl ?_ (fun k' q' hk _ => r_en_wI k' q' hk) hP1 hS1) hL hF
  show (Sum.inl (dA 2, n, Sum.inl ((wI σ k j x).1 k)) : va_E) = Sum.inl (dA 2, n, Sum.inl (upd (σ.1 k) j x))
  rw [wI_at]
theorem RR.lald {k n j : Nat} {es : List Nat} {i : Int32} (hd : decode μ.2.1 pc = .ok (.laload, 1)) (hl : (r_lay z)[k]? = some (.inr (1, n, es))) (hi : i = nI j) (hj : j < n) (h : RR z d μ (pc + 1) lv (.long (σ.2 j) :: rest) σ Q) (hn : n < 2147483648 := by decide) : RR z d μ pc lv (.int i :: .ref k :: rest) σ Q := by
  intro p l e R s m args below meth c H locs cells slots Z D dA ad ls hC hH hL hF
  obtain ⟨hx, hb, hml, hown, hts, hK, hinj, hC7⟩ := id hC
  subst hi
  refine va_lald (D := D) (f := σ.2) hx hb hK hH.1 k 1 (r_wl_at hl) rfl (vp_in_nI hj hn) hd ?_
  rw [nI_clamp (by omega)]
  exact h p l e R s m args below meth c H locs cells slots Z D dA ad ls hC hH hL hF
/-- the one row of longs: the class's cell 45 -/
theorem RR.last {j : Nat} {i : Int32} {x : Int64} (hd : decode μ.2.1 pc = .ok (.lastore, 1)) (hi : i = nI j) (hj : j < 6) (h : RR 0 d μ (pc + 1) lv rest (wL σ j x) Q) : RR 0 d μ pc lv (.long x :: .int i :: .ref 45 :: rest) σ Q := by
  intro p l e R s m args below meth c H locs cells slots Z D dA ad ls hC hH hL hF
  obtain ⟨hx, hb, hml, hown, hts, hK, hinj, hC7⟩ := id hC
  subst hi
  have hl : (r_lay 0)[45]? = some (.inr (1, 6, [])) := rfl
  refine va_last (D := D) (f := σ.2) hx hb hK hH.1 (r_D hinj) hH.2 45 1 (r_wl_at hl) rfl (vp_in_nI hj (by decide)) hd (fun H1 locs1 hP1 hD1 hS1 => ?_)
  rw [nI_clamp (by omega)] at hP1
  refine h p l e R s m args below meth c H1 locs1 cells slots Z D dA ad ls hC (r_Hp.put hl rfl ?_ hP1 hS1) hL hF
  intro k' q' hk hq
  have no1 : ∀ k' n es, (r_lay 0)[k']? = some (Sum.inr (1, n, es)) → k' = 45 := by
    intro k' n es h
    have hlt : k' < 59 := (List.getElem?_eq_some_iff.mp h).1
    have all : ∀ i : Nat, i < 59 → (match (r_lay 0)[i]? with | some (.inr (1, _, _)) => decide (i = 45) | _ => true) = true := by decide +kernel
    have h2 := all k' hlt
    rw [h] at h2
    simpa using h2
  unfold r_en
  split <;> first | rfl | (exact absurd (no1 k' _ _ hq) hk)
theorem RR.aald {k n j r : Nat} {es : List Nat} {i : Int32} (hd : decode μ.2.1 pc = .ok (.aaload, 1)) (hl : (r_lay z)[k]? = some (.inr (3, n, es))) (hi : i = nI j) (hj : j < n) (hr : es[j]? = some r) (h : RR z d μ (pc + 1) lv (.ref r :: rest) σ Q) (hn : n < 2147483648 := by decide) : RR z d μ pc lv (.int i :: .ref k :: rest) σ Q := by
  intro p l e R s m args below meth c H locs cells slots Z D dA ad ls hC hH hL hF
  obtain ⟨hx, hb, hml, hown, hts, hK, hinj, hC7⟩ := id hC
  subst hi
  refine va_aldq (D := D) (f := fun j => (es[j]?).map ad) hx hb hK hH.1 k 3 (r_wl_at hl) rfl (vp_in_nI hj hn) hd ?_
  rw [nI_clamp (by omega)]
  have e1 : va_rf ((es[j]?).map ad) = .ref (ad r) := by rw [hr]; rfl
  show W p l e R s m args below meth c H locs cells slots Z (F0 m (pc + 1) ls (va_rf ((es[j]?).map ad) :: rest.map (r_rv ad)))
  rw [e1]
  exact h p l e R s m args below meth c H locs cells slots Z D dA ad ls hC hH hL hF
theorem RR.ldc2 {idx : Nat} {v : Int64} (hd : decode μ.2.1 pc = .ok (.ldc2_w idx, 3)) (hw : Cond.constantLong μ.1.cls idx v ∈ pw_wl) (h : RR z d μ (pc + 3) lv (.long v :: st) σ Q) : RR z d μ pc lv st σ Q := by
  intro p l e R s m args below meth c H locs cells slots Z D dA ad ls hC hH hL hF
  obtain ⟨hx, hb, hml, hown, hts, hC6⟩ := id hC
  exact lv_ldc2 hx hb hown (hts _ hw) hd (h p l e R s m args below meth c H locs cells slots Z D dA ad ls hC hH hL hF)
theorem RR.ldcw {idx : Nat} {v : Int32} (hd : decode μ.2.1 pc = .ok (.ldc_w idx, 3)) (hw : Cond.constant μ.1.cls idx v ∈ pw_wl) (h : RR z d μ (pc + 3) lv (.int v :: st) σ Q) : RR z d μ pc lv st σ Q := by
  intro p l e R s m args below meth c H locs cells slots Z D dA ad ls hC hH hL hF
  obtain ⟨hx, hb, hml, hown, hts, hC6⟩ := id hC
  exact lv_ldcw hx hb hown (hts _ hw) hd (h p l e R s m args below meth c H locs cells slots Z D dA ad ls hC hH hL hF)
theorem RR.ldc {idx : Nat} {v : Int32} (hd : decode μ.2.1 pc = .ok (.ldc idx, 2)) (hw : Cond.constant μ.1.cls idx v ∈ pw_wl) (h : RR z d μ (pc + 2) lv (.int v :: st) σ Q) : RR z d μ pc lv st σ Q := by
  intro p l e R s m args below meth c H locs cells slots Z D dA ad ls hC hH hL hF
  obtain ⟨hx, hb, hml, hown, hts, hC6⟩ := id hC
  exact lv_ldc hx hb hown (hts _ hw) hd (h p l e R s m args below meth c H locs cells slots Z D dA ad ls hC hH hL hF)
theorem RR.idiv {x y : Int32} (hd : decode μ.2.1 pc = .ok (.idiv, 1)) (hne : ¬ y = 0) (h : RR z d μ (pc + 1) lv (.int (x / y) :: rest) σ Q) : RR z d μ pc lv (.int y :: .int x :: rest) σ Q := by
  intro p l e R s m args below meth c H locs cells slots Z D dA ad ls hC hH hL hF
  exact lv_idiv hC.1 hC.2.1 hd hne (h p l e R s m args below meth c H locs cells slots Z D dA ad ls hC hH hL hF)
theorem RR.irem {x y : Int32} (hd : decode μ.2.1 pc = .ok (.irem, 1)) (hne : ¬ y = 0) (h : RR z d μ (pc + 1) lv (.int (x - x / y * y) :: rest) σ Q) : RR z d μ pc lv (.int y :: .int x :: rest) σ Q := by
  intro p l e R s m args below meth c H locs cells slots Z D dA ad ls hC hH hL hF
  exact lv_irem hC.1 hC.2.1 hd hne (h p l e R s m args below meth c H locs cells slots Z D dA ad ls hC hH hL hF)
theorem RR.ldiv {x y : Int64} (hd : decode μ.2.1 pc = .ok (.ldiv, 1)) (hne : ¬ y = 0) (h : RR z d μ (pc + 1) lv (.long (x / y) :: rest) σ Q) : RR z d μ pc lv (.long y :: .long x :: rest) σ Q := by
  intro p l e R s m args below meth c H locs cells slots Z D dA ad ls hC hH hL hF
  exact lv_ldiv hC.1 hC.2.1 hd hne (h p l e R s m args below meth c H locs cells slots Z D dA ad ls hC hH hL hF)
theorem RR.lrem {x y : Int64} (hd : decode μ.2.1 pc = .ok (.lrem, 1)) (hne : ¬ y = 0) (h : RR z d μ (pc + 1) lv (.long (x - x / y * y) :: rest) σ Q) : RR z d μ pc lv (.long y :: .long x :: rest) σ Q := by
  intro p l e R s m args below meth c H locs cells slots Z D dA ad ls hC hH hL hF
  exact lv_lrem hC.1 hC.2.1 hd hne (h p l e R s m args below meth c H locs cells slots Z D dA ad ls hC hH hL hF)
theorem RR.tsIn {dflt lo hi off : Int} {offs : Array Int} {len t : Nat} {x : Int32} (hd : decode μ.2.1 pc = .ok (.tableswitch dflt lo hi offs, len)) (h1 : ¬ x.toInt < lo) (h2 : ¬ hi < x.toInt) (ho : offs[(x.toInt - lo).toNat]? = some off) (ht : r_to pc off = some t) (h : RR z d μ t lv rest σ Q) : RR z d μ pc lv (.int x :: rest) σ Q := by
  intro p l e R s m args below meth c H locs cells slots Z D dA ad ls hC hH hL hF
  exact lv_tableIn hC.1 hC.2.1 hd h1 h2 ho (r_to_eq ht) (h p l e R s m args below meth c H locs cells slots Z D dA ad ls hC hH hL hF)
theorem RR.tsOut {dflt lo hi : Int} {offs : Array Int} {len t : Nat} {x : Int32} (hd : decode μ.2.1 pc = .ok (.tableswitch dflt lo hi offs, len)) (h1 : x.toInt < lo ∨ hi < x.toInt) (ht : r_to pc dflt = some t) (h : RR z d μ t lv rest σ Q) : RR z d μ pc lv (.int x :: rest) σ Q := by
  intro p l e R s m args below meth c H locs cells slots Z D dA ad ls hC hH hL hF
  exact lv_tableOut hC.1 hC.2.1 hd h1 (r_to_eq ht) (h p l e R s m args below meth c H locs cells slots Z D dA ad ls hC hH hL hF)
theorem RR.lsw {dflt off : Int} {ps : Array (Int × Int)} {len t : Nat} {x : Int32} (hd : decode μ.2.1 pc = .ok (.lookupswitch dflt ps, len)) (hp : (ps.toList.zip (ps.toList.drop 1)).all (fun (a, next) => a.1 < next.1) = true) (ho : Op.lookupswitch.offset ps.toList dflt x.toInt = off) (ht : r_to pc off = some t) (h : RR z d μ t lv rest σ Q) : RR z d μ pc lv (.int x :: rest) σ Q := by
  intro p l e R s m args below meth c H locs cells slots Z D dA ad ls hC hH hL hF
  exact lv_lookup hC.1 hC.2.1 hd hp ho (r_to_eq ht) (h p l e R s m args below meth c H locs cells slots Z D dA ad ls hC hH hL hF)
theorem RR.gets {idx : Nat} (hd : decode μ.2.1 pc = .ok (.getstatic idx, 3)) (hw : Cond.fieldLink μ.1.cls idx "TwinKings" "DIGEST_DAYS" "[I" ∈ pw_wl) (h : RR 0 d μ (pc + 3) lv (.ref 1000 :: st) σ Q) : RR 0 d μ pc lv st σ Q := by
  intro p l e R s m args below meth c H locs cells slots Z D dA ad ls hC hH hL hF
  obtain ⟨hx, hb, hml, hown, hts, hK, hinj, hSt, hC7⟩ := id hC
  exact va_gets hx hb (hSt rfl).1 hH.2 hown (hts _ hw) (fun _ h9 => h9) hd (h p l e R s m args below meth c H locs cells slots Z D dA ad ls hC hH hL hF)
theorem RR.dlen (hd : decode μ.2.1 pc = .ok (.arraylength, 1)) (h : RR 0 d μ (pc + 1) lv (.int 5 :: rest) σ Q) : RR 0 d μ pc lv (.ref 1000 :: rest) σ Q := by
  intro p l e R s m args below meth c H locs cells slots Z D dA ad ls hC hH hL hF
  obtain ⟨hx, hb, hml, hown, hts, hK, hinj, hSt, hC7⟩ := id hC
  exact va_tlen (v := 5) hx hb (hSt rfl).2 hH.2 rfl hd (h p l e R s m args below meth c H locs cells slots Z D dA ad ls hC hH hL hF)
theorem RR.dld {j : Nat} {i : Int32} (hd : decode μ.2.1 pc = .ok (.iaload, 1)) (hi : i = nI j) (hj : j < 5) (h : RR 0 d μ (pc + 1) lv (.int (r_ddI j) :: rest) σ Q) : RR 0 d μ pc lv (.int i :: .ref 1000 :: rest) σ Q := by
  intro p l e R s m args below meth c H locs cells slots Z D dA ad ls hC hH hL hF
  obtain ⟨hx, hb, hml, hown, hts, hK, hinj, hSt, hC7⟩ := id hC
  subst hi
  exact va_ti (v := .int (r_ddI j)) hx hb (hSt rfl).2 hH.2 (vp_in_nI hj (by decide)) (by rw [nI_clamp (by omega)]; rfl) hd (h p l e R s m args below meth c H locs cells slots Z D dA ad ls hC hH hL hF)
theorem RR.iret {v : Int32} (hd : decode μ.2.1 pc = .ok (.ireturn, 1)) (hr : μ.2.2.2 = some .int) (hQ : Q (some (.int v)) σ) : RR z d μ pc lv [.int v] σ Q :=
  fun p l e R s m args below meth c H locs cells slots Z D dA ad ls hC hH hL hF => hF (some (.int v)) σ H locs pc ls hQ hH ⟨hd, Or.inl hr⟩
theorem RR.zret {v : Int32} (hd : decode μ.2.1 pc = .ok (.ireturn, 1)) (hr : μ.2.2.2 = some .boolean) (hv : v = 0 ∨ v = 1) (hQ : Q (some (.int v)) σ) : RR z d μ pc lv [.int v] σ Q :=
  fun p l e R s m args below meth c H locs cells slots Z D dA ad ls hC hH hL hF => hF (some (.int v)) σ H locs pc ls hQ hH ⟨hd, Or.inr ⟨hr, hv⟩⟩
theorem RR.lret {v : Int64} (hd : decode μ.2.1 pc = .ok (.lreturn, 1)) (hr : μ.2.2.2 = some .long) (hQ : Q (some (.long v)) σ) : RR z d μ pc lv [.long v] σ Q :=
  fun p l e R s m args below meth c H locs cells slots Z D dA ad ls hC hH hL hF => hF (some (.long v)) σ H locs pc ls hQ hH ⟨hd, hr⟩
theorem RR.vret (hd : decode μ.2.1 pc = .ok (.return_, 1)) (hr : μ.2.2.2 = none) (hQ : Q none σ) : RR z d μ pc lv [] σ Q :=
  fun p l e R s m args below meth c H locs cells slots Z D dA ad ls hC hH hL hF => hF none σ H locs pc ls hQ hH ⟨hd, hr⟩
theorem RR.aret {k : Nat} {n : String} (hd : decode μ.2.1 pc = .ok (.areturn, 1)) (hr : μ.2.2.2 = some (.object n)) (hQ : Q (some (.ref k)) σ) : RR z d μ pc lv [.ref k] σ Q :=
  fun p l e R s m args below meth c H locs cells slots Z D dA ad ls hC hH hL hF => hF (some (.ref k)) σ H locs pc ls hQ hH ⟨hd, n, hr⟩
theorem RR.aretN {n : String} (hd : decode μ.2.1 pc = .ok (.areturn, 1)) (hr : μ.2.2.2 = some (.object n)) (hQ : Q (some .null) σ) : RR z d μ pc lv [.null] σ Q :=
  fun p l e R s m args below meth c H locs cells slots Z D dA ad ls hC hH hL hF => hF (some .null) σ H locs pc ls hQ hH ⟨hd, n, hr⟩
end RC
end
section
/-! ===== calls ===== -/
def r_Pre (z : Nat) (D : va_G) (dA : Nat → ClassId) (ad : Nat → Nat) (σ : r_St) (U : State) : Prop :=
  va_P D vwCl (r_wl ad dA σ (r_lay z)) U.heap ∧ va_K D vwCl (r_ty dA) U ∧ r_inj ad (r_lay z).length ∧ r_Sta z ad U
def r_Qc (z : Nat) (D : va_G) (dA : Nat → ClassId) (ad : Nat → Nat) (Q : Option Value → r_St → Prop) : Array Value → State → Outcome → State → Prop := fun _ st o t =>
  ∃ (r : Option Value) (σ' : r_St), o = .returned (r.map (r_rv ad)) ∧ Q r σ' ∧ va_P D vwCl (r_wl ad dA σ' (r_lay z)) t.heap ∧ va_F (r_A (r_lay z).length ad) st t
def r_rm (d : Nat) : Room := { frames := d, cells := 0, slots := 0, locals := 64 * d }
def r_ws (μ : r_Mt) : List Cond := .code μ.1 μ.2.1 μ.2.2.1 μ.2.2.2 :: pw_wl
theorem r_sl_len (vs : List Value) : (lg_sl vs).length = (vs.map fun v => v.category).sum := by
  induction vs with
  | nil => rfl
  | cons a t ih =>
    have e : lg_sl (a :: t) = (if a.category = 2 then [.val a, .second] else [.val a]) ++ lg_sl t := rfl
    rw [e, List.length_append, ih]
    simp only [List.map_cons, List.sum_cons]
    rcases lv_cat a with h | h
    · rw [h]; simp
    · rw [h]; simp
theorem r_cats (ad : Nat → Nat) (vs : List Value) : ((vs.map (r_rv ad)).map fun v => v.category) = vs.map fun v => v.category := by
  rw [List.map_map]
  apply List.map_congr_left
  intro v _
  exact r_rv_cat ad v
theorem r_args (ad : Nat → Nat) : ∀ (vs : List Value) (i : Nat), lv_args i (vs.map (r_rv ad)) = (lv_args i vs).map (r_rl ad) := by
  intro vs
  induction vs with
  | nil => intro i; rfl
  | cons a t ih =>
    intro i
    simp only [List.map_cons, lv_args, r_rv_cat, ih]
    rfl
theorem r_Sta.moved {z : Nat} {ad : Nat → Nat} {u U : State} (hvm : u.vm.Alike U.vm) (hh : ∀ q : Nat, q < u.heap.size → ¬ r_A (r_lay z).length ad q → U.heap[q]? = u.heap[q]?) (h : r_Sta z ad u) : r_Sta z ad U :=
  fun e => ⟨((h e).1.moved hvm).kept hh, ((h e).2.moved hvm).kept hh⟩
section RM
variable {z d : Nat} {μ : r_Mt} {σ : r_St} {Q : Option Value → r_St → Prop}
set_option maxHeartbeats 1000000 in
theorem r_met {as : List Value} (hpl : plainName μ.1.cls = true) (hlen : (as.map fun v => v.category).sum ≤ μ.2.2.1) (h : RR z d μ 0 (lv_args 0 as) [] σ Q) (l : Launch) (D : va_G) (dA : Nat → ClassId) (ad : Nat → Nat) :
    Met l μ.1 (r_ws μ) (r_rm d) (va_Pc (as.map (r_rv ad)) (r_Pre z D dA ad σ)) (r_Qc z D dA ad Q) 0 0 (r_A (r_lay z).length ad) := by
  refine Met.ofW (cc := μ.2.1) (maxL := μ.2.2.1) (ret := μ.2.2.2) hpl rfl ?_
  intro p e s m args below meth c s₁ B hml hv
  obtain ⟨rfl, hP, hK, hinj, hSt⟩ := hv
  have hts := atoms_spec (ws := r_ws μ) B.pre
  have hown : s.vm.findClass μ.1.cls = some m.cls := findClass_of_methodNamed B.named
  have hlocks := B.notSynchronized
  have hl := lv_entry (as.map (r_rv ad)) (n := μ.2.2.1) (by rw [r_sl_len, r_cats]; exact hlen)
  rw [lg_entry_eq]
  generalize (lg_sl (as.map (r_rv ad)) ++ List.replicate (μ.2.2.1 - (lg_sl (as.map (r_rv ad))).length) Slot.unset).toArray = ls at hl ⊢
  rw [r_args] at hl
  refine h p l e _ s m _ below meth c s.heap [] 0 0 _ D dA ad ls ⟨B.exec, B.bytes, hml, hown, fun w hw => hts w (List.mem_cons_of_mem _ hw), hK, hinj, hSt, Nat.le_refl _, Nat.le_refl _, Nat.le_refl _, Nat.le_refl _⟩ ⟨hP, va_S.rf⟩ hl ?_
  intro r σ' H' locs' pc' ls' hq hH hret
  have hx := B.exec
  have hb := B.bytes
  have hr := B.returns
  have fin : ∀ t : State, t.heap = H' → s.WarmedH t.vm → r_Qc z D dA ad Q (as.map (r_rv ad)).toArray s (.returned (r.map (r_rv ad))) t := fun t ht _ => ⟨r, σ', rfl, hq, by rw [ht]; exact hH.1, hH.2.F ht⟩
  match r, hret, fin with
  | none, hret, fin => exact W.vret hx hb (hr.trans hret.2) fin hH.2.2.2 hret.1
  | some (.int v), hret, fin =>
    rcases hret.2 with h1 | ⟨h1, h2⟩
    · exact W.iret hx hb (hr.trans h1) fin hH.2.2.2 hret.1
    · refine W.zret (ty := .boolean) hx hb (hr.trans h1) ?_ fin hH.2.2.2 hret.1
      rcases h2 with h2 | h2 <;> subst h2 <;> decide
  | some (.long v), hret, fin => exact W.lret hx hb (hr.trans hret.2) fin hH.2.2.2 hret.1
  | some (.ref k), hret, fin =>
    obtain ⟨h1, n, h2⟩ := hret
    exact W.aret hx hb (hr.trans h2) (Or.inl ⟨n, rfl⟩) (Or.inr ⟨_, rfl⟩) fin hH.2.2.2 h1
  | some .null, hret, fin =>
    obtain ⟨h1, n, h2⟩ := hret
    exact W.aret hx hb (hr.trans h2) (Or.inl ⟨n, rfl⟩) (Or.inl rfl) fin hH.2.2.2 h1
  | some (.float _), hret, _ => exact absurd hret (fun h => h)
  | some (.double _), hret, _ => exact absurd hret (fun h => h)
  | some (.retAddr _), hret, _ => exact absurd hret (fun h => h)
end RM
/-- the words of a call: of an object's method, of a static one, of a nest mate's static one -/
def r_CM (μ' : r_Mt) (n : Nat) : Prop := Cond.code μ'.1 μ'.2.1 μ'.2.2.1 μ'.2.2.2 ∈ pw_wl ∧ Cond.initialized μ'.1.cls ∈ pw_wl ∧ plainName μ'.1.cls = true ∧ (μ'.1.cls ≠ "java/lang/invoke/MethodHandle" ∧ μ'.1.cls ≠ "java/lang/invoke/VarHandle") ∧ (parseMethodDescriptor μ'.1.desc).map (fun d => d.parameters.length) = some n ∧ μ'.2.2.1 ≤ 45
def r_CV (own : String) (idx : Nat) (μ' : r_Mt) (n : Nat) : Prop := r_CM μ' n ∧ Cond.methodLink own idx μ'.1 ∈ pw_wl ∧ Cond.instanceMethod μ'.1 ∈ pw_wl ∧ Cond.selects μ'.1.cls μ'.1 μ'.1 ∈ pw_wl
def r_CS (own : String) (idx : Nat) (μ' : r_Mt) (n : Nat) : Prop := r_CM μ' n ∧ Cond.methodLink own idx μ'.1 ∈ pw_wl ∧ Cond.static μ'.1 ∈ pw_wl
def r_CN (own : String) (idx : Nat) (μ' : r_Mt) (n : Nat) : Prop := r_CM μ' n ∧ (∃ host, Cond.methodLinkNest own idx μ'.1 host ∈ pw_wl) ∧ Cond.static μ'.1 ∈ pw_wl
section RK
variable {z d d' : Nat} {μ μ' : r_Mt} {pc idx n : Nat} {lv : r_Lv} {st rest : List Value} {σ : r_St} {Q : Option Value → r_St → Prop}
/-- behind a call -/
theorem r_back {p : Program} {l : Launch} {e : Env} {R : Room} {s : State} {m : MethodId} {args : Array Value} {below : List Frame} {meth : Method} {c : Code} {H : Heap} {locs : List Loc} {cells slots : Nat} {Z : State → Prop} {D : va_G} {dA : Nat → ClassId} {ad : Nat → Nat} {ls : Array Slot} {st0 : List Value} {a : Array Value}
    (hC : r_Cx z d μ p R s m args c cells slots D dA ad) (hH : r_Hp z D dA ad σ s H locs) (hL : lv_has ls μ.2.2.1 (lv.map (r_rl ad)))
    (hF : ∀ (r : Option Value) (σ' : r_St) (H' : Heap) (locs' : List Loc) (pc' : Nat) (ls' : Array Slot), Q r σ' → r_Hp z D dA ad σ' s H' locs' → r_ret μ pc' r → W p l e R s m args below meth c H' locs' cells slots Z (F0 m pc' ls' (r.toList.map (r_rv ad))))
    (hr : va_Run p l e R s m args below meth c H locs cells slots 0 0 (F0 m pc ls st0) (rest.map (r_rv ad)) (r_Qc z D dA ad (fun r σ' => RR z d μ (pc + 3) lv (r.toList ++ rest) σ' Q) a) (r_A (r_lay z).length ad)) : W p l e R s m args below meth c H locs cells slots Z (F0 m pc ls st0) := by
  intro T hT X
  obtain ⟨v, st₀, t, T', L, h0, X', hL', e1, e2, ⟨r, σ', hv, hk, hP, hz, hq⟩, st⟩ := hr T hT X
  have hv' : v = r.map (r_rv ad) := Outcome.returned.inj hv
  subst hv'
  rw [h0] at hz hq
  have hS : va_S (r_A (r_lay z).length ad) s.heap T'.heap (locs ++ L) := by
    refine ⟨Nat.le_trans hH.2.1 (by rw [e1]; exact hz), fun q h1 h2 => ?_, fun q hq2 => ?_⟩
    · rw [e1, hq q (Nat.lt_of_lt_of_le h1 hH.2.1) h2]
      exact hH.2.2.1 q h1 h2
    · rcases List.mem_append.mp hq2 with h | h
      · exact hH.2.2.2 q h
      · exact hL' q h
  obtain ⟨t2, a1, b1⟩ := hk p l e R s m args below meth c T'.heap (locs ++ L) cells slots Z D dA ad ls hC ⟨by rw [e1]; exact hP, hS⟩ hL hF T' rfl X'
  have e3 : (r.map (r_rv ad)).toList ++ rest.map (r_rv ad) = (r.toList ++ rest).map (r_rv ad) := by cases r <;> simp
  refine ⟨t2, st t2 ?_, b1⟩
  show Steps p.tables e below (T'.setTop (F0 m (pc + 3) ls ((r.map (r_rv ad)).toList ++ rest.map (r_rv ad)))) t2
  rw [e3]
  exact a1
theorem r_blind {D : va_G} {dA : Nat → ClassId} {ad : Nat → Nat} {av : List Value} : FrameBlind (va_Pc av (r_Pre z D dA ad σ)) := by
  intro a U g mk h
  obtain ⟨h1, h2, h3, h4, h5⟩ := h
  exact ⟨h1, h2, va_K.moved (u := U) (U := U.calling g mk a) (Vm.Alike.refl U.vm) h3, h4, r_Sta.moved (u := U) (U := U.calling g mk a) (Vm.Alike.refl U.vm) (fun _ _ _ => rfl) h5⟩
theorem r_pre {p : Program} {R : Room} {s : State} {m : MethodId} {args : Array Value} {c : Code} {H : Heap} {locs : List Loc} {cells slots : Nat} {D : va_G} {dA : Nat → ClassId} {ad : Nat → Nat} (hC : r_Cx z d μ p R s m args c cells slots D dA ad) (hH : r_Hp z D dA ad σ s H locs) {U : State} (hU : U.heap = H) (hW : s.WarmedH U.vm) : r_Pre z D dA ad σ U := by
  obtain ⟨hx, hb, hml, hown, hts, hK, hinj, hSt, hC7⟩ := hC
  refine ⟨by rw [hU]; exact hH.1, va_K.moved hW.alike hK, hinj, r_Sta.moved hW.alike (fun q h1 h2 => ?_) hSt⟩
  rw [hU]
  exact hH.2.2.1 q h1 h2
theorem r_pays {args : Array Value} {s : State} (hts : ∀ w ∈ pw_wl, w.before args s = true) (hc : Cond.code μ'.1 μ'.2.1 μ'.2.2.1 μ'.2.2.2 ∈ pw_wl) : ∀ w ∈ r_ws μ', ∀ (a' : Array Value) (U : State), s.WarmedH U.vm → w.before a' U = true := by
  intro w hw a' U hW
  have hm : w ∈ pw_wl := by
    rcases List.mem_cons.mp hw with h | h
    · rw [h]; exact hc
    · exact h
  exact pw_warm hW (pw_good hm) (hts w hm)
theorem r_cb {p : Program} {R : Room} {s : State} {m : MethodId} {args : Array Value} {c : Code} {cells slots : Nat} {D : va_G} {dA : Nat → ClassId} {ad : Nat → Nat} (hC : r_Cx z d μ p R s m args c cells slots D dA ad) (hdd : d' + 1 ≤ d) (hm : r_CM μ' n) (hl : Cond.methodLink μ.1.cls idx μ'.1 ∈ pw_wl) : CallB R s args μ.1.cls idx μ'.1 μ'.2.1 μ'.2.2.1 μ'.2.2.2 (r_ws μ') (r_rm d') 0 0 n := by
  obtain ⟨hx, hb, hml, hown, hts, hK, hinj, hSt, hfr, hlo, hce, hsl⟩ := hC
  obtain ⟨h1, h2, h3, h4, h5, h6⟩ := hm
  refine ⟨rfl, rfl, ?_, ?_, r_pays hts h1, List.mem_cons_self, hts _ h1, hts _ h2, h4, fun sig h => ?_, hts _ hl⟩
  · show d' + 1 ≤ R.frames
    omega
  · show 8 + (μ'.2.2.1 + 11) + 64 * d' ≤ R.locals
    omega
  · rw [h] at h5
    exact (Option.some.inj h5).symm
set_option maxHeartbeats 1000000 in
theorem RR.cV {ci k : Nat} {fs : List (Option Nat)} {as : List Value} (hd : decode μ.2.1 pc = .ok (.invokevirtual idx, 3)) (hc : r_CV μ.1.cls idx μ' n) (hl : (r_lay z)[k]? = some (.inl (ci, fs))) (hci : (vwCl[ci]?).map (fun q => q.1) = some μ'.1.cls) (hst : as.reverse ++ .ref k :: rest = st) (hn : as.length = n) (hw : (rest.map fun v => v.category).sum ≤ 8) (hlen : ((Value.ref k :: as).map fun v => v.category).sum ≤ μ'.2.2.1) (hdd : d' + 1 ≤ d)
    (h : RR z d' μ' 0 (lv_args 0 (.ref k :: as)) [] σ (fun r σ' => RR z d μ (pc + 3) lv (r.toList ++ rest) σ' Q)) : RR z d μ pc lv st σ Q := by
  intro p l e R s m args below meth c H locs cells slots Z D dA ad ls hC hH hL hF
  obtain ⟨hx, hb, hml, hown, hts, hK, hC6⟩ := id hC
  obtain ⟨hm, h1, h2, h3⟩ := hc
  have hM := r_met hm.2.2.1 hlen h l D dA ad
  subst hst
  cases hq : vwCl[ci]? with
  | none => rw [hq] at hci; cases hci
  | some q =>
    rw [hq] at hci
    have hci' : q.1 = μ'.1.cls := Option.some.inj hci
    have hrecv := va_recv hK hH.1 (ci := ci) (q0 := k) hq (r_wl_at hl)
    rw [hci'] at hrecv
    refine r_back hC hH hL hF (va_runV (As := as.map (r_rv ad)) (b := ad k) (C := μ'.1.cls) ⟨hx, hb, hml, hown, hts⟩ hM ⟨r_cb hC hdd hm h1, hts _ h2, hts _ h3⟩ ⟨r_blind, hrecv, fun U hU hW => ⟨rfl, r_pre hC hH hU hW⟩⟩ rfl ?_ hL.1 ?_ (lv_room (by rw [r_cats]; exact hw)) hd ⟨hC.2.2.2.2.2.2.2.2.2.2.1, hC.2.2.2.2.2.2.2.2.2.2.2⟩)
    · rw [List.length_map]; exact hn
    · simp [List.map_append, List.map_reverse, r_rv]
set_option maxHeartbeats 1000000 in
theorem RR.cS {as : List Value} (hd : decode μ.2.1 pc = .ok (.invokestatic idx, 3)) (hc : r_CS μ.1.cls idx μ' n) (hst : as.reverse ++ rest = st) (hn : as.length = n) (hw : (rest.map fun v => v.category).sum ≤ 8) (hlen : (as.map fun v => v.category).sum ≤ μ'.2.2.1) (hdd : d' + 1 ≤ d)
    (h : RR z d' μ' 0 (lv_args 0 as) [] σ (fun r σ' => RR z d μ (pc + 3) lv (r.toList ++ rest) σ' Q)) : RR z d μ pc lv st σ Q := by
  intro p l e R s m args below meth c H locs cells slots Z D dA ad ls hC hH hL hF
  obtain ⟨hx, hb, hml, hown, hts, hK, hC6⟩ := id hC
  obtain ⟨hm, h1, h2⟩ := hc
  have hM := r_met hm.2.2.1 hlen h l D dA ad
  subst hst
  refine r_back hC hH hL hF (va_runS (As := as.map (r_rv ad)) ⟨hx, hb, hml, hown, hts⟩ hM ⟨r_cb hC hdd hm h1, hts _ h2⟩ ⟨r_blind, fun U hU hW => ⟨rfl, r_pre hC hH hU hW⟩⟩ rfl ?_ hL.1 ?_ (lv_room (by rw [r_cats]; exact hw)) hd ⟨hC.2.2.2.2.2.2.2.2.2.2.1, hC.2.2.2.2.2.2.2.2.2.2.2⟩)
  · rw [List.length_map]; exact hn
  · simp [List.map_append, List.map_reverse]
set_option maxHeartbeats 1000000 in
theorem RR.cN {as : List Value} (hd : decode μ.2.1 pc = .ok (.invokestatic idx, 3)) (hc : r_CN μ.1.cls idx μ' n) (hst : as.reverse ++ rest = st) (hn : as.length = n) (hw : (rest.map fun v => v.category).sum ≤ 8) (hlen : (as.map fun v => v.category).sum ≤ μ'.2.2.1) (hdd : d' + 1 ≤ d)
    (h : RR z d' μ' 0 (lv_args 0 as) [] σ (fun r σ' => RR z d μ (pc + 3) lv (r.toList ++ rest) σ' Q)) : RR z d μ pc lv st σ Q := by
  intro p l e R s m args below meth c H locs cells slots Z D dA ad ls hC hH hL hF
  obtain ⟨hx, hb, hml, hown, hts, hK, hinj, hSt, hfr, hlo, hce, hsl⟩ := id hC
  obtain ⟨hm, ⟨host, h1⟩, h2⟩ := hc
  have hM := r_met hm.2.2.1 hlen h l D dA ad
  subst hst
  obtain ⟨g1, g2, g3, g4, g5, g6⟩ := hm
  refine r_back hC hH hL hF (va_runSN (As := as.map (r_rv ad)) (host := host) (n := n) ⟨hx, hb, hml, hown, hts⟩ hM ⟨⟨⟨rfl, rfl, ?_, ?_, r_pays hts g1, List.mem_cons_self⟩, hts _ g1, hts _ g2, g4, fun sig h => ?_, hts _ h1⟩, hts _ h2, trivial⟩ ⟨r_blind, fun U hU hW => ⟨rfl, r_pre hC hH hU hW⟩⟩ rfl ?_ hL.1 ?_ (lv_room (by rw [r_cats]; exact hw)) hd ⟨hce, hsl⟩)
  · show d' + 1 ≤ R.frames
    omega
  · show 8 + (μ'.2.2.1 + 11) + 64 * d' ≤ R.locals
    omega
  · rw [h] at g5
    exact (Option.some.inj g5).symm
  · rw [List.length_map]; exact hn
  · simp [List.map_append, List.map_reverse]
end RK
end
section
/-! ===== the walk's own words: ends, cuts, steps with named results ===== -/
abbrev rI (K : Int32 → r_St → Prop) : Option Value → r_St → Prop := fun r σ => ∃ v, r = some (.int v) ∧ K v σ
abbrev rL (K : Int64 → r_St → Prop) : Option Value → r_St → Prop := fun r σ => ∃ v, r = some (.long v) ∧ K v σ
abbrev rV (K : r_St → Prop) : Option Value → r_St → Prop := fun r σ => r = none ∧ K σ
abbrev rC (c : Nat) (K : r_St → Prop) : Option Value → r_St → Prop := fun r σ => r = some (.ref c) ∧ K σ
def IN (v lo hi : Int32) : Prop := lo ≤ v ∧ v ≤ hi
def sl (x y : Int32) : Int32 := x <<< (y &&& 31)
def sr (x y : Int32) : Int32 := x >>> (y &&& 31)
def iu (x y : Int32) : Int32 := (x.toUInt32 >>> (y.toUInt32 &&& Int32.toUInt32 31)).toInt32
def lsl (x : Int64) (y : Int32) : Int64 := x <<< (y.toInt64 &&& 63)
def lsr (x : Int64) (y : Int32) : Int64 := x >>> (y.toInt64 &&& 63)
def lu (x : Int64) (y : Int32) : Int64 := (x.toUInt64 >>> (y.toInt64.toUInt64 &&& Int64.toUInt64 63)).toInt64
def rm (x y : Int32) : Int32 := x - x / y * y
def lrm (x y : Int64) : Int64 := x - x / y * y
def isRows (k n : Nat) : Prop := (r_lay 0)[k]? = some (.inl (3, [none, some (k + 1), some (k + 2), some (k + 3), none])) ∧ (r_lay 0)[k + 1]? = some (.inr (0, n, [])) ∧ (r_lay 0)[k + 2]? = some (.inr (0, n, [])) ∧ (r_lay 0)[k + 3]? = some (.inr (0, n, [])) ∧ n < 2147483648
def isLaws (k : Nat) : Prop := (r_lay 0)[k]? = some (.inl (1, [some (k + 1), some (k + 2), some (k + 3), some (k + 4), some (k + 5), none])) ∧ (r_lay 0)[k + 1]? = some (.inr (0, 40, [])) ∧ (r_lay 0)[k + 2]? = some (.inr (0, 40, [])) ∧ (r_lay 0)[k + 3]? = some (.inr (0, 40, [])) ∧ (r_lay 0)[k + 4]? = some (.inr (0, 40, [])) ∧ (r_lay 0)[k + 5]? = some (.inr (0, 40, []))
def isSheet (k : Nat) : Prop := (r_lay 0)[k]? = some (.inl (4, [some (k + 1), none, none])) ∧ (r_lay 0)[k + 1]? = some (.inr (0, 60, []))
theorem isRows_4 : isRows 4 8 := ⟨rfl, rfl, rfl, rfl, by decide⟩
theorem isRows_8 : isRows 8 4 := ⟨rfl, rfl, rfl, rfl, by decide⟩
theorem isRows_12 : isRows 12 10 := ⟨rfl, rfl, rfl, rfl, by decide⟩
theorem isRows_16 : isRows 16 12 := ⟨rfl, rfl, rfl, rfl, by decide⟩
theorem isRows_20 : isRows 20 6 := ⟨rfl, rfl, rfl, rfl, by decide⟩
theorem isRows_24 : isRows 24 8 := ⟨rfl, rfl, rfl, rfl, by decide⟩
theorem isRows_28 : isRows 28 8 := ⟨rfl, rfl, rfl, rfl, by decide⟩
theorem isLaws_32 : isLaws 32 := ⟨rfl, rfl, rfl, rfl, rfl, rfl⟩
theorem isLaws_38 : isLaws 38 := ⟨rfl, rfl, rfl, rfl, rfl, rfl⟩
theorem isSheet_at {j : Nat} (h : j < 4) : isSheet (51 + 2 * j) := by
  rcases (show j = 0 ∨ j = 1 ∨ j = 2 ∨ j = 3 by omega) with rfl | rfl | rfl | rfl <;> exact ⟨rfl, rfl⟩
theorem shx {j : Nat} (h : j < 4) : ([51, 53, 55, 57] : List Nat)[j]? = some (51 + 2 * j) := by
  rcases (show j = 0 ∨ j = 1 ∨ j = 2 ∨ j = 3 by omega) with rfl | rfl | rfl | rfl <;> rfl
section RW
variable {z d : Nat} {μ : r_Mt} {pc : Nat} {lv : r_Lv} {st : List Value} {σ : r_St} {Q : Option Value → r_St → Prop}
theorem RR.s2 {i : Instr} {pc' : Nat} {lv' : r_Lv} {st' : List Value} (hd : decode μ.2.1 pc = .ok (i, r_len i)) (hs : r_step μ.2.2.1 pc lv st i = some (pc', lv', st')) (h : RR z d μ pc' lv' st' σ Q) : RR z d μ pc lv st σ Q := RR.s hd hs h
theorem RR.brT {i : Instr} {P : Prop} {t : Nat} {rest : List Value} (hd : decode μ.2.1 pc = .ok (i, r_len i)) (hs : r_br pc st i = some (P, t, rest)) (hp : P) (kt : RR z d μ t lv rest σ Q) : RR z d μ pc lv st σ Q := RR.br hd hs (fun _ => kt) (fun c => absurd hp c)
theorem RR.brF {i : Instr} {P : Prop} {t : Nat} {rest : List Value} (hd : decode μ.2.1 pc = .ok (i, r_len i)) (hs : r_br pc st i = some (P, t, rest)) (hp : ¬ P) (kf : RR z d μ (pc + 3) lv rest σ Q) : RR z d μ pc lv st σ Q := RR.br hd hs (fun c => absurd c hp) (fun _ => kf)
theorem RR.cut (ps : List Nat) {lv' : r_Lv} (hl : ps.filterMap (fun i => lv[i]?) = lv') (h : RR z d μ pc lv' st σ Q) : RR z d μ pc lv st σ Q := by
  refine RR.lvs (fun q hq => ?_) h
  rw [← hl] at hq
  obtain ⟨i, _, hi⟩ := List.mem_filterMap.mp hq
  exact List.mem_of_getElem? hi
theorem RR.toI {K : Int32 → r_St → Prop} (H : RR z d μ pc lv st σ (rI K)) (h : ∀ v σ', K v σ' → Q (some (.int v)) σ') : RR z d μ pc lv st σ Q := RR.post H (fun r σ' ⟨v, e, hk⟩ => by subst e; exact h v σ' hk)
theorem RR.toL {K : Int64 → r_St → Prop} (H : RR z d μ pc lv st σ (rL K)) (h : ∀ v σ', K v σ' → Q (some (.long v)) σ') : RR z d μ pc lv st σ Q := RR.post H (fun r σ' ⟨v, e, hk⟩ => by subst e; exact h v σ' hk)
theorem RR.toV {K : r_St → Prop} (H : RR z d μ pc lv st σ (rV K)) (h : ∀ σ', K σ' → Q none σ') : RR z d μ pc lv st σ Q := RR.post H (fun r σ' ⟨e, hk⟩ => by subst e; exact h σ' hk)
theorem RR.toC {c : Nat} {K : r_St → Prop} (H : RR z d μ pc lv st σ (rC c K)) (h : ∀ σ', K σ' → Q (some (.ref c)) σ') : RR z d μ pc lv st σ Q := RR.post H (fun r σ' ⟨e, hk⟩ => by subst e; exact h σ' hk)
end RW
end
section
/-! ===== links: the words of the tables, fields, methods (written by gen.py) ===== -/
abbrev mJ13_bitCount_95d88 : r_Mt := (yJ13_bitCount_95d88, cJ13_bitCount_95d88, 2, some (.int))
abbrev mJ6_bitCount_0f7a4 : r_Mt := (yJ6_bitCount_0f7a4, cJ6_bitCount_0f7a4, 1, some (.int))
abbrev mJ9_max_7cf53 : r_Mt := (yJ9_max_7cf53, cJ9_max_7cf53, 2, some (.int))
abbrev mJ9_min_7cf53 : r_Mt := (yJ9_min_7cf53, cJ9_min_7cf53, 2, some (.int))
abbrev mX0_append : r_Mt := (yX0_append, cX0_append, 2, some (.int))
abbrev mX0_clear : r_Mt := (yX0_clear, cX0_clear, 2, some (.int))
abbrev mX0_dropLast : r_Mt := (yX0_dropLast, cX0_dropLast, 1, some (.int))
abbrev mX0_elderBits : r_Mt := (yX0_elderBits, cX0_elderBits, 1, some (.int))
abbrev mX0_faultPlace : r_Mt := (yX0_faultPlace, cX0_faultPlace, 1, some (.int))
abbrev mX0_findFault : r_Mt := (yX0_findFault, cX0_findFault, 2, some (.int))
abbrev mX0_fineOf : r_Mt := (yX0_fineOf, cX0_fineOf, 2, some (.int))
abbrev mX0_fits : r_Mt := (yX0_fits, cX0_fits, 3, some (.boolean))
abbrev mX0_has : r_Mt := (yX0_has, cX0_has, 2, some (.boolean))
abbrev mX0_init : r_Mt := (yX0_init, cX0_init, 1, none)
abbrev mX0_length : r_Mt := (yX0_length, cX0_length, 1, some (.int))
abbrev mX0_number : r_Mt := (yX0_number, cX0_number, 1, some (.int))
abbrev mX0_parse : r_Mt := (yX0_parse, cX0_parse, 2, none)
abbrev mX0_youngerBits : r_Mt := (yX0_youngerBits, cX0_youngerBits, 4, some (.int))
abbrev mX0_youngerSays : r_Mt := (yX0_youngerSays, cX0_youngerSays, 4, some (.int))
abbrev mX1_coinOn : r_Mt := (yX1_coinOn, cX1_coinOn, 2, some (.int))
abbrev mX1_everyDeed : r_Mt := (yX1_everyDeed, cX1_everyDeed, 1, some (.int))
abbrev mX1_gatherTurned : r_Mt := (yX1_gatherTurned, cX1_gatherTurned, 6, none)
abbrev mX1_init : r_Mt := (yX1_init, cX1_init, 1, none)
abbrev mX1_isSunday : r_Mt := (yX1_isSunday, cX1_isSunday, 1, some (.boolean))
abbrev mX1_kingInTurn : r_Mt := (yX1_kingInTurn, cX1_kingInTurn, 1, some (.int))
abbrev mX1_numberAtBest : r_Mt := (yX1_numberAtBest, cX1_numberAtBest, 3, some (.int))
abbrev mX1_openBy : r_Mt := (yX1_openBy, cX1_openBy, 4, some (.int))
abbrev mX1_openDays : r_Mt := (yX1_openDays, cX1_openDays, 5, some (.long))
abbrev mX1_openIn256 : r_Mt := (yX1_openIn256, cX1_openIn256, 7, some (.int))
abbrev mX1_openOn : r_Mt := (yX1_openOn, cX1_openOn, 2, some (.int))
abbrev mX1_playOn : r_Mt := (yX1_playOn, cX1_playOn, 9, some (.int))
abbrev mX1_rulerBy : r_Mt := (yX1_rulerBy, cX1_rulerBy, 4, some (.int))
abbrev mX1_rulerOn : r_Mt := (yX1_rulerOn, cX1_rulerOn, 2, some (.int))
abbrev mX1_saidOn : r_Mt := (yX1_saidOn, cX1_saidOn, 3, some (.int))
abbrev mX1_seat : r_Mt := (yX1_seat, cX1_seat, 4, none)
abbrev mX1_speak : r_Mt := (yX1_speak, cX1_speak, 9, none)
abbrev mX1_startDays : r_Mt := (yX1_startDays, cX1_startDays, 8, some (.long))
abbrev mX1_wordAtBest : r_Mt := (yX1_wordAtBest, cX1_wordAtBest, 7, some (.int))
abbrev mX2_findBestRow : r_Mt := (yX2_findBestRow, cX2_findBestRow, 2, some (.int))
abbrev mX2_init : r_Mt := (yX2_init, cX2_init, 1, none)
abbrev mX2_keepRow : r_Mt := (yX2_keepRow, cX2_keepRow, 2, none)
abbrev mX2_layInTurn : r_Mt := (yX2_layInTurn, cX2_layInTurn, 5, some (.int))
abbrev mX2_prepare : r_Mt := (yX2_prepare, cX2_prepare, 4, none)
abbrev mX2_search : r_Mt := (yX2_search, cX2_search, 7, none)
abbrev mX2_startInTurn : r_Mt := (yX2_startInTurn, cX2_startInTurn, 2, some (.int))
abbrev mX2_taskInBestRow : r_Mt := (yX2_taskInBestRow, cX2_taskInBestRow, 2, some (.int))
abbrev mX3_add : r_Mt := (yX3_add, cX3_add, 4, some (.int))
abbrev mX3_clear : r_Mt := (yX3_clear, cX3_clear, 2, some (.int))
abbrev mX3_dropLast : r_Mt := (yX3_dropLast, cX3_dropLast, 1, some (.int))
abbrev mX3_first : r_Mt := (yX3_first, cX3_first, 2, some (.int))
abbrev mX3_holds : r_Mt := (yX3_holds, cX3_holds, 4, some (.boolean))
abbrev mX3_init : r_Mt := (yX3_init, cX3_init, 2, none)
abbrev mX3_second : r_Mt := (yX3_second, cX3_second, 2, some (.int))
abbrev mX3_size : r_Mt := (yX3_size, cX3_size, 1, some (.int))
abbrev mX3_third : r_Mt := (yX3_third, cX3_third, 2, some (.int))
abbrev mX4_begin : r_Mt := (yX4_begin, cX4_begin, 4, none)
abbrev mX4_cut : r_Mt := (yX4_cut, cX4_cut, 2, some (.int))
abbrev mX4_form : r_Mt := (yX4_form, cX4_form, 1, some (.int))
abbrev mX4_hasRange : r_Mt := (yX4_hasRange, cX4_hasRange, 3, some (.boolean))
abbrev mX4_init : r_Mt := (yX4_init, cX4_init, 1, none)
abbrev mX4_isLost : r_Mt := (yX4_isLost, cX4_isLost, 1, some (.boolean))
abbrev mX4_item : r_Mt := (yX4_item, cX4_item, 2, some (.int))
abbrev mX4_keep : r_Mt := (yX4_keep, cX4_keep, 3, none)
abbrev mX4_size : r_Mt := (yX4_size, cX4_size, 1, some (.int))
abbrev mX4_takeItems : r_Mt := (yX4_takeItems, cX4_takeItems, 5, none)
abbrev mX4_tear : r_Mt := (yX4_tear, cX4_tear, 2, some (.int))
abbrev mX5_agreesWithBook : r_Mt := (yX5_agreesWithBook, cX5_agreesWithBook, 4, some (.boolean))
abbrev mX5_alike : r_Mt := (yX5_alike, cX5_alike, 3, some (.int))
abbrev mX5_allowed : r_Mt := (yX5_allowed, cX5_allowed, 2, some (.int))
abbrev mX5_allows : r_Mt := (yX5_allows, cX5_allows, 3, some (.int))
abbrev mX5_ask : r_Mt := (yX5_ask, cX5_ask, 9, some (.int))
abbrev mX5_back : r_Mt := (yX5_back, cX5_back, 3, some (.int))
abbrev mX5_bit : r_Mt := (yX5_bit, cX5_bit, 2, some (.int))
abbrev mX5_book : r_Mt := (yX5_book, cX5_book, 4, some (.int))
abbrev mX5_chance : r_Mt := (yX5_chance, cX5_chance, 12, some (.long))
abbrev mX5_changed : r_Mt := (yX5_changed, cX5_changed, 2, some (.int))
abbrev mX5_cheapest : r_Mt := (yX5_cheapest, cX5_cheapest, 11, some (.int))
abbrev mX5_closedDays : r_Mt := (yX5_closedDays, cX5_closedDays, 6, some (.int))
abbrev mX5_coins : r_Mt := (yX5_coins, cX5_coins, 5, some (.int))
abbrev mX5_copy : r_Mt := (yX5_copy, cX5_copy, 8, some (.int))
abbrev mX5_count : r_Mt := (yX5_count, cX5_count, 2, some (.int))
abbrev mX5_crossing : r_Mt := (yX5_crossing, cX5_crossing, 2, some (.int))
abbrev mX5_dayInOrder : r_Mt := (yX5_dayInOrder, cX5_dayInOrder, 5, some (.int))
abbrev mX5_daysAsSeen : r_Mt := (yX5_daysAsSeen, cX5_daysAsSeen, 8, some (.long))
abbrev mX5_deed : r_Mt := (yX5_deed, cX5_deed, 3, some (.int))
abbrev mX5_digest : r_Mt := (yX5_digest, cX5_digest, 4, some (.long))
abbrev mX5_does : r_Mt := (yX5_does, cX5_does, 4, some (.int))
abbrev mX5_edict : r_Mt := (yX5_edict, cX5_edict, 3, some (.int))
abbrev mX5_fault : r_Mt := (yX5_fault, cX5_fault, 1, some (.int))
abbrev mX5_fined : r_Mt := (yX5_fined, cX5_fined, 3, some (.int))
abbrev mX5_finesInCoin : r_Mt := (yX5_finesInCoin, cX5_finesInCoin, 11, some (.int))
abbrev mX5_finish : r_Mt := (yX5_finish, cX5_finish, 4, some (.int))
abbrev mX5_firstDay : r_Mt := (yX5_firstDay, cX5_firstDay, 4, some (.int))
abbrev mX5_forged : r_Mt := (yX5_forged, cX5_forged, 3, some (.int))
abbrev mX5_forget : r_Mt := (yX5_forget, cX5_forget, 2, some (.int))
abbrev mX5_found : r_Mt := (yX5_found, cX5_found, 2, some (.int))
abbrev mX5_get : r_Mt := (yX5_get, cX5_get, 5, some (.int))
abbrev mX5_holdsDay : r_Mt := (yX5_holdsDay, cX5_holdsDay, 3, some (.boolean))
abbrev mX5_inLowestTerms : r_Mt := (yX5_inLowestTerms, cX5_inLowestTerms, 10, some (.long))
abbrev mX5_init : r_Mt := (yX5_init, cX5_init, 2, none)
abbrev mX5_isDay : r_Mt := (yX5_isDay, cX5_isDay, 1, some (.boolean))
abbrev mX5_isForm : r_Mt := (yX5_isForm, cX5_isForm, 1, some (.boolean))
abbrev mX5_isKing : r_Mt := (yX5_isKing, cX5_isKing, 1, some (.boolean))
abbrev mX5_isSheet : r_Mt := (yX5_isSheet, cX5_isSheet, 1, some (.boolean))
abbrev mX5_itemFinding : r_Mt := (yX5_itemFinding, cX5_itemFinding, 3, some (.int))
abbrev mX5_laws : r_Mt := (yX5_laws, cX5_laws, 1, some (.object "TwinKings$Laws"))
abbrev mX5_leap : r_Mt := (yX5_leap, cX5_leap, 2, some (.int))
abbrev mX5_lose : r_Mt := (yX5_lose, cX5_lose, 2, some (.int))
abbrev mX5_mayBeDeed : r_Mt := (yX5_mayBeDeed, cX5_mayBeDeed, 1, some (.boolean))
abbrev mX5_mix : r_Mt := (yX5_mix, cX5_mix, 4, some (.long))
abbrev mX5_mixDays : r_Mt := (yX5_mixDays, cX5_mixDays, 9, some (.long))
abbrev mX5_mixDeeds : r_Mt := (yX5_mixDeeds, cX5_mixDeeds, 6, some (.long))
abbrev mX5_mixFines : r_Mt := (yX5_mixFines, cX5_mixFines, 6, some (.long))
abbrev mX5_mixPlans : r_Mt := (yX5_mixPlans, cX5_mixPlans, 5, some (.long))
abbrev mX5_never : r_Mt := (yX5_never, cX5_never, 4, some (.int))
abbrev mX5_plan : r_Mt := (yX5_plan, cX5_plan, 4, some (.int))
abbrev mX5_put : r_Mt := (yX5_put, cX5_put, 6, some (.int))
abbrev mX5_read : r_Mt := (yX5_read, cX5_read, 5, some (.int))
abbrev mX5_rules : r_Mt := (yX5_rules, cX5_rules, 2, some (.int))
abbrev mX5_seen : r_Mt := (yX5_seen, cX5_seen, 3, some (.int))
abbrev mX5_set : r_Mt := (yX5_set, cX5_set, 4, some (.int))
abbrev mX5_sheet : r_Mt := (yX5_sheet, cX5_sheet, 4, some (.int))
abbrev mX5_sick : r_Mt := (yX5_sick, cX5_sick, 3, some (.int))
abbrev mX5_soonest : r_Mt := (yX5_soonest, cX5_soonest, 4, some (.int))
abbrev mX5_task : r_Mt := (yX5_task, cX5_task, 3, some (.int))
abbrev mX5_type : r_Mt := (yX5_type, cX5_type, 2, some (.int))
abbrev mX5_undo : r_Mt := (yX5_undo, cX5_undo, 1, some (.int))
abbrev mX5_undoable : r_Mt := (yX5_undoable, cX5_undoable, 2, some (.object "TwinKings$Rows"))
abbrev mX5_when : r_Mt := (yX5_when, cX5_when, 4, some (.int))
abbrev mX5_wipe : r_Mt := (yX5_wipe, cX5_wipe, 1, some (.int))
abbrev mX5_within : r_Mt := (yX5_within, cX5_within, 3, some (.boolean))
abbrev mX5_words : r_Mt := (yX5_words, cX5_words, 5, some (.int))
abbrev mX5_write : r_Mt := (yX5_write, cX5_write, 6, some (.int))
abbrev mX5_year : r_Mt := (yX5_year, cX5_year, 10, some (.int))
abbrev mX6_alike : r_Mt := (yX6_alike, cX6_alike, 1, some (.int))
abbrev mX6_alikeNow : r_Mt := (yX6_alikeNow, cX6_alikeNow, 2, some (.int))
abbrev mX6_allDeeds : r_Mt := (yX6_allDeeds, cX6_allDeeds, 1, some (.int))
abbrev mX6_allowed : r_Mt := (yX6_allowed, cX6_allowed, 2, some (.int))
abbrev mX6_allowedOf : r_Mt := (yX6_allowedOf, cX6_allowedOf, 2, some (.int))
abbrev mX6_allows : r_Mt := (yX6_allows, cX6_allows, 3, some (.int))
abbrev mX6_allowsOf : r_Mt := (yX6_allowsOf, cX6_allowsOf, 3, some (.int))
abbrev mX6_asTold : r_Mt := (yX6_asTold, cX6_asTold, 1, none)
abbrev mX6_ask : r_Mt := (yX6_ask, cX6_ask, 1, some (.int))
abbrev mX6_askNow : r_Mt := (yX6_askNow, cX6_askNow, 8, some (.int))
abbrev mX6_back : r_Mt := (yX6_back, cX6_back, 2, some (.int))
abbrev mX6_bestOut : r_Mt := (yX6_bestOut, cX6_bestOut, 7, some (.int))
abbrev mX6_book : r_Mt := (yX6_book, cX6_book, 4, some (.int))
abbrev mX6_chance : r_Mt := (yX6_chance, cX6_chance, 7, some (.long))
abbrev mX6_chanceOf : r_Mt := (yX6_chanceOf, cX6_chanceOf, 11, some (.long))
abbrev mX6_chanceOn : r_Mt := (yX6_chanceOn, cX6_chanceOn, 8, some (.int))
abbrev mX6_cheapest : r_Mt := (yX6_cheapest, cX6_cheapest, 5, some (.int))
abbrev mX6_cheapestOf : r_Mt := (yX6_cheapestOf, cX6_cheapestOf, 10, some (.int))
abbrev mX6_coins : r_Mt := (yX6_coins, cX6_coins, 2, some (.int))
abbrev mX6_coinsOf : r_Mt := (yX6_coinsOf, cX6_coinsOf, 6, some (.int))
abbrev mX6_copy : r_Mt := (yX6_copy, cX6_copy, 7, some (.int))
abbrev mX6_count : r_Mt := (yX6_count, cX6_count, 2, some (.int))
abbrev mX6_crossing : r_Mt := (yX6_crossing, cX6_crossing, 2, some (.int))
abbrev mX6_crossingOf : r_Mt := (yX6_crossingOf, cX6_crossingOf, 4, some (.int))
abbrev mX6_dayDigest : r_Mt := (yX6_dayDigest, cX6_dayDigest, 6, some (.long))
abbrev mX6_deed : r_Mt := (yX6_deed, cX6_deed, 3, some (.int))
abbrev mX6_deedDigest : r_Mt := (yX6_deedDigest, cX6_deedDigest, 7, some (.long))
abbrev mX6_deedOf : r_Mt := (yX6_deedOf, cX6_deedOf, 3, some (.int))
abbrev mX6_digest : r_Mt := (yX6_digest, cX6_digest, 4, some (.long))
abbrev mX6_does : r_Mt := (yX6_does, cX6_does, 4, some (.int))
abbrev mX6_edict : r_Mt := (yX6_edict, cX6_edict, 3, some (.int))
abbrev mX6_fault : r_Mt := (yX6_fault, cX6_fault, 1, some (.int))
abbrev mX6_faultNow : r_Mt := (yX6_faultNow, cX6_faultNow, 5, some (.int))
abbrev mX6_fined : r_Mt := (yX6_fined, cX6_fined, 2, some (.int))
abbrev mX6_finedOf : r_Mt := (yX6_finedOf, cX6_finedOf, 4, some (.int))
abbrev mX6_finedOn : r_Mt := (yX6_finedOn, cX6_finedOn, 6, some (.int))
abbrev mX6_finish : r_Mt := (yX6_finish, cX6_finish, 3, some (.int))
abbrev mX6_finishBy : r_Mt := (yX6_finishBy, cX6_finishBy, 5, some (.int))
abbrev mX6_finishOf : r_Mt := (yX6_finishOf, cX6_finishOf, 4, some (.int))
abbrev mX6_firstFor : r_Mt := (yX6_firstFor, cX6_firstFor, 7, some (.int))
abbrev mX6_forged : r_Mt := (yX6_forged, cX6_forged, 1, some (.int))
abbrev mX6_forgedNow : r_Mt := (yX6_forgedNow, cX6_forgedNow, 5, some (.int))
abbrev mX6_forget : r_Mt := (yX6_forget, cX6_forget, 3, some (.int))
abbrev mX6_get : r_Mt := (yX6_get, cX6_get, 5, some (.int))
abbrev mX6_in : r_Mt := (yX6_in, cX6_in, 3, some (.boolean))
abbrev mX6_init : r_Mt := (yX6_init, cX6_init, 1, none)
abbrev mX6_isDay : r_Mt := (yX6_isDay, cX6_isDay, 1, some (.boolean))
abbrev mX6_isDeed : r_Mt := (yX6_isDeed, cX6_isDeed, 2, some (.boolean))
abbrev mX6_isEight : r_Mt := (yX6_isEight, cX6_isEight, 1, some (.boolean))
abbrev mX6_isIn : r_Mt := (yX6_isIn, cX6_isIn, 2, some (.boolean))
abbrev mX6_isLeap : r_Mt := (yX6_isLeap, cX6_isLeap, 4, some (.boolean))
abbrev mX6_isSheet : r_Mt := (yX6_isSheet, cX6_isSheet, 1, some (.boolean))
abbrev mX6_isSick : r_Mt := (yX6_isSick, cX6_isSick, 5, some (.boolean))
abbrev mX6_isSo : r_Mt := (yX6_isSo, cX6_isSo, 4, some (.boolean))
abbrev mX6_isTwo : r_Mt := (yX6_isTwo, cX6_isTwo, 1, some (.boolean))
abbrev mX6_isWhen : r_Mt := (yX6_isWhen, cX6_isWhen, 4, some (.boolean))
abbrev mX6_isWord : r_Mt := (yX6_isWord, cX6_isWord, 4, some (.boolean))
abbrev mX6_keep : r_Mt := (yX6_keep, cX6_keep, 4, none)
abbrev mX6_lacks : r_Mt := (yX6_lacks, cX6_lacks, 4, some (.int))
abbrev mX6_lays : r_Mt := (yX6_lays, cX6_lays, 8, none)
abbrev mX6_laysOuts : r_Mt := (yX6_laysOuts, cX6_laysOuts, 8, none)
abbrev mX6_laysTold : r_Mt := (yX6_laysTold, cX6_laysTold, 1, none)
abbrev mX6_leap : r_Mt := (yX6_leap, cX6_leap, 2, some (.int))
abbrev mX6_lose : r_Mt := (yX6_lose, cX6_lose, 2, some (.int))
abbrev mX6_lowest : r_Mt := (yX6_lowest, cX6_lowest, 11, some (.long))
abbrev mX6_meets : r_Mt := (yX6_meets, cX6_meets, 2, some (.int))
abbrev mX6_never : r_Mt := (yX6_never, cX6_never, 1, some (.int))
abbrev mX6_neverNow : r_Mt := (yX6_neverNow, cX6_neverNow, 3, some (.int))
abbrev mX6_no : r_Mt := (yX6_no, cX6_no, 1, some (.long))
abbrev mX6_ones : r_Mt := (yX6_ones, cX6_ones, 3, some (.int))
abbrev mX6_plan : r_Mt := (yX6_plan, cX6_plan, 3, some (.int))
abbrev mX6_planBy : r_Mt := (yX6_planBy, cX6_planBy, 10, some (.int))
abbrev mX6_planOf : r_Mt := (yX6_planOf, cX6_planOf, 4, some (.int))
abbrev mX6_put : r_Mt := (yX6_put, cX6_put, 6, some (.int))
abbrev mX6_read : r_Mt := (yX6_read, cX6_read, 3, some (.int))
abbrev mX6_reads : r_Mt := (yX6_reads, cX6_reads, 2, none)
abbrev mX6_rules : r_Mt := (yX6_rules, cX6_rules, 2, some (.int))
abbrev mX6_rulesOf : r_Mt := (yX6_rulesOf, cX6_rulesOf, 3, some (.int))
abbrev mX6_seen : r_Mt := (yX6_seen, cX6_seen, 3, some (.int))
abbrev mX6_set : r_Mt := (yX6_set, cX6_set, 4, some (.int))
abbrev mX6_sheet : r_Mt := (yX6_sheet, cX6_sheet, 5, some (.int))
abbrev mX6_sick : r_Mt := (yX6_sick, cX6_sick, 3, some (.int))
abbrev mX6_soonest : r_Mt := (yX6_soonest, cX6_soonest, 4, some (.int))
abbrev mX6_soonestOf : r_Mt := (yX6_soonestOf, cX6_soonestOf, 4, some (.int))
abbrev mX6_task : r_Mt := (yX6_task, cX6_task, 3, some (.int))
abbrev mX6_type : r_Mt := (yX6_type, cX6_type, 2, some (.int))
abbrev mX6_undo : r_Mt := (yX6_undo, cX6_undo, 1, some (.int))
abbrev mX6_when : r_Mt := (yX6_when, cX6_when, 2, some (.int))
abbrev mX6_whenOf : r_Mt := (yX6_whenOf, cX6_whenOf, 6, some (.int))
abbrev mX6_wipe : r_Mt := (yX6_wipe, cX6_wipe, 2, some (.int))
abbrev mX6_words : r_Mt := (yX6_words, cX6_words, 4, some (.int))
abbrev mX6_wordsOf : r_Mt := (yX6_wordsOf, cX6_wordsOf, 8, some (.int))
abbrev mX6_write : r_Mt := (yX6_write, cX6_write, 3, some (.int))
abbrev mX6_year : r_Mt := (yX6_year, cX6_year, 4, some (.int))
abbrev mX6_yearOf : r_Mt := (yX6_yearOf, cX6_yearOf, 10, some (.int))
abbrev mX6_youngerFirst : r_Mt := (yX6_youngerFirst, cX6_youngerFirst, 5, some (.int))
theorem pw_uX0 : ∀ w ∈ u_ws RX0 TX0 6, w ∈ pw_wl := by decide +kernel
theorem pw_uX1 : ∀ w ∈ u_ws RX1 TX1 6, w ∈ pw_wl := by decide +kernel
theorem pw_uX2 : ∀ w ∈ u_ws RX2 TX2 7, w ∈ pw_wl := by decide +kernel
theorem pw_uX3 : ∀ w ∈ u_ws RX3 TX3 5, w ∈ pw_wl := by decide +kernel
theorem pw_uX4 : ∀ w ∈ u_ws RX4 TX4 3, w ∈ pw_wl := by decide +kernel
theorem pw_uX5 : ∀ w ∈ u_ws RX5 TX5 16, w ∈ pw_wl := by decide +kernel
theorem pw_uX6 : ∀ w ∈ u_ws RX6 TX6 42, w ∈ pw_wl := by decide +kernel
theorem pw_w0 : Cond.selects RX0 yX0_parse yX0_parse ∈ pw_wl := pw_in 0 (by decide +kernel) (by decide +kernel)
theorem pw_w1 : Cond.selects RX0 yX0_findFault yX0_findFault ∈ pw_wl := pw_in 1 (by decide +kernel) (by decide +kernel)
theorem pw_w2 : Cond.selects RX0 yX0_fits yX0_fits ∈ pw_wl := pw_in 2 (by decide +kernel) (by decide +kernel)
theorem pw_w3 : Cond.selects RX5 yX5_changed yX5_changed ∈ pw_wl := pw_in 3 (by decide +kernel) (by decide +kernel)
theorem pw_w4 : Cond.selects RX0 yX0_youngerSays yX0_youngerSays ∈ pw_wl := pw_in 4 (by decide +kernel) (by decide +kernel)
theorem pw_w5 : Cond.selects RX5 yX5_undoable yX5_undoable ∈ pw_wl := pw_in 5 (by decide +kernel) (by decide +kernel)
theorem pw_w6 : Cond.selects RX5 yX5_found yX5_found ∈ pw_wl := pw_in 6 (by decide +kernel) (by decide +kernel)
theorem pw_w7 : Cond.selects RX5 yX5_laws yX5_laws ∈ pw_wl := pw_in 7 (by decide +kernel) (by decide +kernel)
theorem pw_w8 : Cond.selects RX1 yX1_gatherTurned yX1_gatherTurned ∈ pw_wl := pw_in 8 (by decide +kernel) (by decide +kernel)
theorem pw_w9 : Cond.selects RX1 yX1_openBy yX1_openBy ∈ pw_wl := pw_in 9 (by decide +kernel) (by decide +kernel)
theorem pw_w10 : Cond.selects RX5 yX5_finesInCoin yX5_finesInCoin ∈ pw_wl := pw_in 10 (by decide +kernel) (by decide +kernel)
theorem pw_w11 : Cond.selects RX2 yX2_search yX2_search ∈ pw_wl := pw_in 11 (by decide +kernel) (by decide +kernel)
theorem pw_w12 : Cond.selects RX2 yX2_keepRow yX2_keepRow ∈ pw_wl := pw_in 12 (by decide +kernel) (by decide +kernel)
theorem pw_w13 : Cond.selects RX1 yX1_playOn yX1_playOn ∈ pw_wl := pw_in 13 (by decide +kernel) (by decide +kernel)
theorem pw_w14 : Cond.selects RX5 yX5_daysAsSeen yX5_daysAsSeen ∈ pw_wl := pw_in 14 (by decide +kernel) (by decide +kernel)
theorem pw_w15 : Cond.selects RX5 yX5_agreesWithBook yX5_agreesWithBook ∈ pw_wl := pw_in 15 (by decide +kernel) (by decide +kernel)
theorem pw_w16 : Cond.selects RX4 yX4_cut yX4_cut ∈ pw_wl := pw_in 16 (by decide +kernel) (by decide +kernel)
theorem pw_w17 : Cond.selects RX5 yX5_mixDeeds yX5_mixDeeds ∈ pw_wl := pw_in 17 (by decide +kernel) (by decide +kernel)
theorem pw_w18 : Cond.selects RX5 yX5_mixDays yX5_mixDays ∈ pw_wl := pw_in 18 (by decide +kernel) (by decide +kernel)
theorem pw_w19 : Cond.selects RX5 yX5_mixFines yX5_mixFines ∈ pw_wl := pw_in 19 (by decide +kernel) (by decide +kernel)
theorem pw_w20 : Cond.selects RX5 yX5_mixPlans yX5_mixPlans ∈ pw_wl := pw_in 20 (by decide +kernel) (by decide +kernel)
theorem pw_w21 : Cond.selects RX6 yX6_faultNow yX6_faultNow ∈ pw_wl := pw_in 21 (by decide +kernel) (by decide +kernel)
theorem pw_w22 : Cond.selects RX6 yX6_isDeed yX6_isDeed ∈ pw_wl := pw_in 22 (by decide +kernel) (by decide +kernel)
theorem pw_w23 : Cond.selects RX6 yX6_reads yX6_reads ∈ pw_wl := pw_in 23 (by decide +kernel) (by decide +kernel)
theorem pw_w24 : Cond.selects RX6 yX6_deedOf yX6_deedOf ∈ pw_wl := pw_in 24 (by decide +kernel) (by decide +kernel)
theorem pw_w25 : Cond.selects RX6 yX6_youngerFirst yX6_youngerFirst ∈ pw_wl := pw_in 25 (by decide +kernel) (by decide +kernel)
theorem pw_w26 : Cond.selects RX6 yX6_meets yX6_meets ∈ pw_wl := pw_in 26 (by decide +kernel) (by decide +kernel)
theorem pw_w27 : Cond.selects RX6 yX6_rulesOf yX6_rulesOf ∈ pw_wl := pw_in 27 (by decide +kernel) (by decide +kernel)
theorem pw_w28 : Cond.selects RX6 yX6_isLeap yX6_isLeap ∈ pw_wl := pw_in 28 (by decide +kernel) (by decide +kernel)
theorem pw_w29 : Cond.selects RX6 yX6_isSick yX6_isSick ∈ pw_wl := pw_in 29 (by decide +kernel) (by decide +kernel)
theorem pw_w30 : Cond.selects RX6 yX6_allowsOf yX6_allowsOf ∈ pw_wl := pw_in 30 (by decide +kernel) (by decide +kernel)
theorem pw_w31 : Cond.selects RX6 yX6_laysTold yX6_laysTold ∈ pw_wl := pw_in 31 (by decide +kernel) (by decide +kernel)
theorem pw_w32 : Cond.selects RX6 yX6_asTold yX6_asTold ∈ pw_wl := pw_in 32 (by decide +kernel) (by decide +kernel)
theorem pw_w33 : Cond.selects RX6 yX6_lays yX6_lays ∈ pw_wl := pw_in 33 (by decide +kernel) (by decide +kernel)
theorem pw_w34 : Cond.selects RX6 yX6_allDeeds yX6_allDeeds ∈ pw_wl := pw_in 34 (by decide +kernel) (by decide +kernel)
theorem pw_w35 : Cond.selects RX6 yX6_allowedOf yX6_allowedOf ∈ pw_wl := pw_in 35 (by decide +kernel) (by decide +kernel)
theorem pw_w36 : Cond.selects RX6 yX6_neverNow yX6_neverNow ∈ pw_wl := pw_in 36 (by decide +kernel) (by decide +kernel)
theorem pw_w37 : Cond.selects RX6 yX6_alikeNow yX6_alikeNow ∈ pw_wl := pw_in 37 (by decide +kernel) (by decide +kernel)
theorem pw_w38 : Cond.selects RX6 yX6_crossingOf yX6_crossingOf ∈ pw_wl := pw_in 38 (by decide +kernel) (by decide +kernel)
theorem pw_w39 : Cond.selects RX6 yX6_finedOf yX6_finedOf ∈ pw_wl := pw_in 39 (by decide +kernel) (by decide +kernel)
theorem pw_w40 : Cond.selects RX6 yX6_finedOn yX6_finedOn ∈ pw_wl := pw_in 40 (by decide +kernel) (by decide +kernel)
theorem pw_w41 : Cond.selects RX6 yX6_coinsOf yX6_coinsOf ∈ pw_wl := pw_in 41 (by decide +kernel) (by decide +kernel)
theorem pw_w42 : Cond.selects RX6 yX6_soonestOf yX6_soonestOf ∈ pw_wl := pw_in 42 (by decide +kernel) (by decide +kernel)
theorem pw_w43 : Cond.selects RX6 yX6_firstFor yX6_firstFor ∈ pw_wl := pw_in 43 (by decide +kernel) (by decide +kernel)
theorem pw_w44 : Cond.selects RX6 yX6_cheapestOf yX6_cheapestOf ∈ pw_wl := pw_in 44 (by decide +kernel) (by decide +kernel)
theorem pw_w45 : Cond.selects RX6 yX6_finishOf yX6_finishOf ∈ pw_wl := pw_in 45 (by decide +kernel) (by decide +kernel)
theorem pw_w46 : Cond.selects RX6 yX6_finishBy yX6_finishBy ∈ pw_wl := pw_in 46 (by decide +kernel) (by decide +kernel)
theorem pw_w47 : Cond.selects RX6 yX6_planOf yX6_planOf ∈ pw_wl := pw_in 47 (by decide +kernel) (by decide +kernel)
theorem pw_w48 : Cond.selects RX6 yX6_planBy yX6_planBy ∈ pw_wl := pw_in 48 (by decide +kernel) (by decide +kernel)
theorem pw_w49 : Cond.selects RX6 yX6_wordsOf yX6_wordsOf ∈ pw_wl := pw_in 49 (by decide +kernel) (by decide +kernel)
theorem pw_w50 : Cond.selects RX6 yX6_laysOuts yX6_laysOuts ∈ pw_wl := pw_in 50 (by decide +kernel) (by decide +kernel)
theorem pw_w51 : Cond.selects RX6 yX6_isWord yX6_isWord ∈ pw_wl := pw_in 51 (by decide +kernel) (by decide +kernel)
theorem pw_w52 : Cond.selects RX6 yX6_bestOut yX6_bestOut ∈ pw_wl := pw_in 52 (by decide +kernel) (by decide +kernel)
theorem pw_w53 : Cond.selects RX6 yX6_whenOf yX6_whenOf ∈ pw_wl := pw_in 53 (by decide +kernel) (by decide +kernel)
theorem pw_w54 : Cond.selects RX6 yX6_isWhen yX6_isWhen ∈ pw_wl := pw_in 54 (by decide +kernel) (by decide +kernel)
theorem pw_w55 : Cond.selects RX6 yX6_isSo yX6_isSo ∈ pw_wl := pw_in 55 (by decide +kernel) (by decide +kernel)
theorem pw_w56 : Cond.selects RX6 yX6_askNow yX6_askNow ∈ pw_wl := pw_in 56 (by decide +kernel) (by decide +kernel)
theorem pw_w57 : Cond.selects RX6 yX6_forgedNow yX6_forgedNow ∈ pw_wl := pw_in 57 (by decide +kernel) (by decide +kernel)
theorem pw_w58 : Cond.selects RX6 yX6_chanceOf yX6_chanceOf ∈ pw_wl := pw_in 58 (by decide +kernel) (by decide +kernel)
theorem pw_w59 : Cond.selects RX6 yX6_chanceOn yX6_chanceOn ∈ pw_wl := pw_in 59 (by decide +kernel) (by decide +kernel)
theorem pw_w60 : Cond.selects RX6 yX6_yearOf yX6_yearOf ∈ pw_wl := pw_in 60 (by decide +kernel) (by decide +kernel)
theorem pw_w61 : Cond.selects RX6 yX6_lacks yX6_lacks ∈ pw_wl := pw_in 61 (by decide +kernel) (by decide +kernel)
theorem pw_w62 : Cond.selects RX6 yX6_keep yX6_keep ∈ pw_wl := pw_in 62 (by decide +kernel) (by decide +kernel)
theorem pw_w63 : Cond.selects RX6 yX6_deedDigest yX6_deedDigest ∈ pw_wl := pw_in 63 (by decide +kernel) (by decide +kernel)
theorem pw_w64 : Cond.selects RX6 yX6_dayDigest yX6_dayDigest ∈ pw_wl := pw_in 64 (by decide +kernel) (by decide +kernel)
theorem pw_w66 : Cond.initialized "TwinKings" ∈ pw_wl := pw_in 66 (by decide +kernel) (by decide +kernel)
theorem pw_w67 : Cond.initialized "TwinKings$DeedText" ∈ pw_wl := pw_in 67 (by decide +kernel) (by decide +kernel)
theorem pw_w68 : Cond.initialized "TwinKings$Rows" ∈ pw_wl := pw_in 68 (by decide +kernel) (by decide +kernel)
theorem pw_w69 : Cond.initialized "java/lang/Math" ∈ pw_wl := pw_in 69 (by decide +kernel) (by decide +kernel)
theorem pw_w70 : Cond.initialized "TwinKings$Laws" ∈ pw_wl := pw_in 70 (by decide +kernel) (by decide +kernel)
theorem pw_w71 : Cond.initialized "TwinKings$Planner" ∈ pw_wl := pw_in 71 (by decide +kernel) (by decide +kernel)
theorem pw_w72 : Cond.initialized "TwinKings$Sheet" ∈ pw_wl := pw_in 72 (by decide +kernel) (by decide +kernel)
theorem pw_w73 : Cond.initialized "TwinKingsModel" ∈ pw_wl := pw_in 73 (by decide +kernel) (by decide +kernel)
theorem pw_w74 : Cond.initialized "java/lang/Integer" ∈ pw_wl := pw_in 74 (by decide +kernel) (by decide +kernel)
theorem pw_w75 : Cond.initialized "java/lang/Long" ∈ pw_wl := pw_in 75 (by decide +kernel) (by decide +kernel)
theorem pw_w91 : Cond.fieldLink "TwinKings$DeedText" 11 "TwinKings$DeedText" "bytes" "[I" ∈ pw_wl := pw_in 91 (by decide +kernel) (by decide +kernel)
theorem pw_w92 : Cond.fieldLink "TwinKings$DeedText" 15 "TwinKings$DeedText" "fines" "[I" ∈ pw_wl := pw_in 92 (by decide +kernel) (by decide +kernel)
theorem pw_w93 : Cond.fieldLink "TwinKings$DeedText" 22 "TwinKings$DeedText" "length" "I" ∈ pw_wl := pw_in 93 (by decide +kernel) (by decide +kernel)
theorem pw_w94 : Cond.fieldLink "TwinKings$DeedText" 18 "TwinKings$DeedText" "faultAt" "I" ∈ pw_wl := pw_in 94 (by decide +kernel) (by decide +kernel)
theorem pw_w95 : Cond.fieldLink "TwinKings$DeedText" 25 "TwinKings$DeedText" "number" "I" ∈ pw_wl := pw_in 95 (by decide +kernel) (by decide +kernel)
theorem pw_w96 : Cond.fieldLink "TwinKings$DeedText" 36 "TwinKings$DeedText" "elder" "I" ∈ pw_wl := pw_in 96 (by decide +kernel) (by decide +kernel)
theorem pw_w118 : Cond.static yJ9_max_7cf53 ∈ pw_wl := pw_in 118 (by decide +kernel) (by decide +kernel)
theorem pw_w119 : Cond.code yJ9_max_7cf53 prog_11_method_65_code 2 (Option.some Jvm.ClassFile.FieldType.int) ∈ pw_wl := pw_in 119 (by decide +kernel) (by decide +kernel)
theorem pw_w120 : Cond.fieldLink "TwinKings$Rows" 15 "TwinKings$Rows" "room" "I" ∈ pw_wl := pw_in 120 (by decide +kernel) (by decide +kernel)
theorem pw_w121 : Cond.fieldLink "TwinKings$Rows" 21 "TwinKings$Rows" "firsts" "[I" ∈ pw_wl := pw_in 121 (by decide +kernel) (by decide +kernel)
theorem pw_w122 : Cond.fieldLink "TwinKings$Rows" 25 "TwinKings$Rows" "seconds" "[I" ∈ pw_wl := pw_in 122 (by decide +kernel) (by decide +kernel)
theorem pw_w123 : Cond.fieldLink "TwinKings$Rows" 28 "TwinKings$Rows" "thirds" "[I" ∈ pw_wl := pw_in 123 (by decide +kernel) (by decide +kernel)
theorem pw_w124 : Cond.fieldLink "TwinKings$Rows" 31 "TwinKings$Rows" "size" "I" ∈ pw_wl := pw_in 124 (by decide +kernel) (by decide +kernel)
theorem pw_w142 : Cond.fieldLink "TwinKings$Laws" 9 "TwinKings$Laws" "rulers" "[I" ∈ pw_wl := pw_in 142 (by decide +kernel) (by decide +kernel)
theorem pw_w143 : Cond.fieldLink "TwinKings$Laws" 15 "TwinKings$Laws" "elderSays" "[I" ∈ pw_wl := pw_in 143 (by decide +kernel) (by decide +kernel)
theorem pw_w144 : Cond.fieldLink "TwinKings$Laws" 18 "TwinKings$Laws" "youngerSays" "[I" ∈ pw_wl := pw_in 144 (by decide +kernel) (by decide +kernel)
theorem pw_w145 : Cond.fieldLink "TwinKings$Laws" 21 "TwinKings$Laws" "open" "[I" ∈ pw_wl := pw_in 145 (by decide +kernel) (by decide +kernel)
theorem pw_w146 : Cond.fieldLink "TwinKings$Laws" 24 "TwinKings$Laws" "turned" "[I" ∈ pw_wl := pw_in 146 (by decide +kernel) (by decide +kernel)
theorem pw_w147 : Cond.fieldLink "TwinKings$Laws" 37 "TwinKings$Laws" "number" "I" ∈ pw_wl := pw_in 147 (by decide +kernel) (by decide +kernel)
theorem pw_w167 : Cond.fieldLink "TwinKings$Planner" 9 "TwinKings$Planner" "starts" "[J" ∈ pw_wl := pw_in 167 (by decide +kernel) (by decide +kernel)
theorem pw_w168 : Cond.fieldLink "TwinKings$Planner" 15 "TwinKings$Planner" "lengths" "[I" ∈ pw_wl := pw_in 168 (by decide +kernel) (by decide +kernel)
theorem pw_w169 : Cond.fieldLink "TwinKings$Planner" 19 "TwinKings$Planner" "turnStarts" "[I" ∈ pw_wl := pw_in 169 (by decide +kernel) (by decide +kernel)
theorem pw_w170 : Cond.fieldLink "TwinKings$Planner" 22 "TwinKings$Planner" "row" "[I" ∈ pw_wl := pw_in 170 (by decide +kernel) (by decide +kernel)
theorem pw_w171 : Cond.fieldLink "TwinKings$Planner" 25 "TwinKings$Planner" "bestRow" "[I" ∈ pw_wl := pw_in 171 (by decide +kernel) (by decide +kernel)
theorem pw_w172 : Cond.fieldLink "TwinKings$Planner" 40 "TwinKings$Planner" "number" "I" ∈ pw_wl := pw_in 172 (by decide +kernel) (by decide +kernel)
theorem pw_w173 : Cond.fieldLink "TwinKings$Planner" 65 "TwinKings$Planner" "bestEnd" "I" ∈ pw_wl := pw_in 173 (by decide +kernel) (by decide +kernel)
theorem pw_w197 : Cond.fieldLink "TwinKings$Sheet" 9 "TwinKings$Sheet" "items" "[I" ∈ pw_wl := pw_in 197 (by decide +kernel) (by decide +kernel)
theorem pw_w198 : Cond.fieldLink "TwinKings$Sheet" 15 "TwinKings$Sheet" "form" "I" ∈ pw_wl := pw_in 198 (by decide +kernel) (by decide +kernel)
theorem pw_w199 : Cond.fieldLink "TwinKings$Sheet" 19 "TwinKings$Sheet" "size" "I" ∈ pw_wl := pw_in 199 (by decide +kernel) (by decide +kernel)
theorem pw_w207 : Cond.fieldLink "TwinKings" 12 "TwinKings" "text" "LTwinKings$DeedText;" ∈ pw_wl := pw_in 207 (by decide +kernel) (by decide +kernel)
theorem pw_w208 : Cond.fieldLink "TwinKings" 21 "TwinKings" "sickRows" "LTwinKings$Rows;" ∈ pw_wl := pw_in 208 (by decide +kernel) (by decide +kernel)
theorem pw_w209 : Cond.fieldLink "TwinKings" 25 "TwinKings" "leapRows" "LTwinKings$Rows;" ∈ pw_wl := pw_in 209 (by decide +kernel) (by decide +kernel)
theorem pw_w210 : Cond.fieldLink "TwinKings" 28 "TwinKings" "edictRows" "LTwinKings$Rows;" ∈ pw_wl := pw_in 210 (by decide +kernel) (by decide +kernel)
theorem pw_w211 : Cond.fieldLink "TwinKings" 31 "TwinKings" "doneRows" "LTwinKings$Rows;" ∈ pw_wl := pw_in 211 (by decide +kernel) (by decide +kernel)
theorem pw_w212 : Cond.fieldLink "TwinKings" 34 "TwinKings" "taskRows" "LTwinKings$Rows;" ∈ pw_wl := pw_in 212 (by decide +kernel) (by decide +kernel)
theorem pw_w213 : Cond.fieldLink "TwinKings" 37 "TwinKings" "seenRows" "LTwinKings$Rows;" ∈ pw_wl := pw_in 213 (by decide +kernel) (by decide +kernel)
theorem pw_w214 : Cond.fieldLink "TwinKings" 40 "TwinKings" "bookRows" "LTwinKings$Rows;" ∈ pw_wl := pw_in 214 (by decide +kernel) (by decide +kernel)
theorem pw_w215 : Cond.fieldLink "TwinKings" 46 "TwinKings" "told" "LTwinKings$Laws;" ∈ pw_wl := pw_in 215 (by decide +kernel) (by decide +kernel)
theorem pw_w216 : Cond.fieldLink "TwinKings" 50 "TwinKings" "supposed" "LTwinKings$Laws;" ∈ pw_wl := pw_in 216 (by decide +kernel) (by decide +kernel)
theorem pw_w217 : Cond.fieldLink "TwinKings" 56 "TwinKings" "planner" "LTwinKings$Planner;" ∈ pw_wl := pw_in 217 (by decide +kernel) (by decide +kernel)
theorem pw_w218 : Cond.fieldLink "TwinKings" 62 "TwinKings" "sheets" "[LTwinKings$Sheet;" ∈ pw_wl := pw_in 218 (by decide +kernel) (by decide +kernel)
theorem pw_w219 : Cond.fieldLink "TwinKings" 106 "TwinKings" "rule" "I" ∈ pw_wl := pw_in 219 (by decide +kernel) (by decide +kernel)
theorem pw_w220 : Cond.fieldLink "TwinKings" 113 "TwinKings" "court" "I" ∈ pw_wl := pw_in 220 (by decide +kernel) (by decide +kernel)
theorem pw_w221 : Cond.fieldLink "TwinKings" 295 "TwinKings" "finding" "I" ∈ pw_wl := pw_in 221 (by decide +kernel) (by decide +kernel)
theorem pw_w222 : Cond.fieldLink "TwinKings" 66 "TwinKings" "stale" "Z" ∈ pw_wl := pw_in 222 (by decide +kernel) (by decide +kernel)
theorem pw_w260 : Cond.methodLink "TwinKings" 71 yX5_within ∈ pw_wl := pw_in 260 (by decide +kernel) (by decide +kernel)
theorem pw_w261 : Cond.static yX5_within ∈ pw_wl := pw_in 261 (by decide +kernel) (by decide +kernel)
theorem pw_w262 : Cond.code yX5_within prog_1_method_49_code 3 (Option.some Jvm.ClassFile.FieldType.boolean) ∈ pw_wl := pw_in 262 (by decide +kernel) (by decide +kernel)
theorem pw_w263 : Cond.methodLink "TwinKings" 75 yX0_append ∈ pw_wl := pw_in 263 (by decide +kernel) (by decide +kernel)
theorem pw_w264 : Cond.instanceMethod yX0_append ∈ pw_wl := pw_in 264 (by decide +kernel) (by decide +kernel)
theorem pw_w265 : Cond.selects "TwinKings$DeedText" yX0_append yX0_append ∈ pw_wl := pw_in 265 (by decide +kernel) (by decide +kernel)
theorem pw_w266 : Cond.code yX0_append prog_2_method_9_code 2 (Option.some Jvm.ClassFile.FieldType.int) ∈ pw_wl := pw_in 266 (by decide +kernel) (by decide +kernel)
theorem pw_w267 : Cond.methodLink "TwinKings$DeedText" 43 yX0_parse ∈ pw_wl := pw_in 267 (by decide +kernel) (by decide +kernel)
theorem pw_w269 : Cond.instanceMethod yX0_parse ∈ pw_wl := pw_in 269 (by decide +kernel) (by decide +kernel)
theorem pw_w270 : Cond.code yX0_parse prog_2_method_13_code 2 (Option.none : Option Jvm.ClassFile.FieldType) ∈ pw_wl := pw_in 270 (by decide +kernel) (by decide +kernel)
theorem pw_w271 : Cond.methodLink "TwinKings$DeedText" 49 yX0_findFault ∈ pw_wl := pw_in 271 (by decide +kernel) (by decide +kernel)
theorem pw_w273 : Cond.instanceMethod yX0_findFault ∈ pw_wl := pw_in 273 (by decide +kernel) (by decide +kernel)
theorem pw_w274 : Cond.code yX0_findFault prog_2_method_14_code 2 (Option.some Jvm.ClassFile.FieldType.int) ∈ pw_wl := pw_in 274 (by decide +kernel) (by decide +kernel)
theorem pw_w275 : Cond.methodLink "TwinKings$DeedText" 53 yX0_fits ∈ pw_wl := pw_in 275 (by decide +kernel) (by decide +kernel)
theorem pw_w277 : Cond.instanceMethod yX0_fits ∈ pw_wl := pw_in 277 (by decide +kernel) (by decide +kernel)
theorem pw_w278 : Cond.code yX0_fits prog_2_method_15_code 3 (Option.some Jvm.ClassFile.FieldType.boolean) ∈ pw_wl := pw_in 278 (by decide +kernel) (by decide +kernel)
theorem pw_w279 : Cond.methodLinkNest "TwinKings$DeedText" 28 yX5_within "TwinKings" ∈ pw_wl := pw_in 279 (by decide +kernel) (by decide +kernel)
theorem pw_w280 : Cond.methodLink "TwinKings" 79 yX5_changed ∈ pw_wl := pw_in 280 (by decide +kernel) (by decide +kernel)
theorem pw_w282 : Cond.instanceMethod yX5_changed ∈ pw_wl := pw_in 282 (by decide +kernel) (by decide +kernel)
theorem pw_w283 : Cond.code yX5_changed prog_1_method_55_code 2 (Option.some Jvm.ClassFile.FieldType.int) ∈ pw_wl := pw_in 283 (by decide +kernel) (by decide +kernel)
theorem pw_w288 : Cond.methodLink "TwinKings" 82 yX0_clear ∈ pw_wl := pw_in 288 (by decide +kernel) (by decide +kernel)
theorem pw_w289 : Cond.instanceMethod yX0_clear ∈ pw_wl := pw_in 289 (by decide +kernel) (by decide +kernel)
theorem pw_w290 : Cond.selects "TwinKings$DeedText" yX0_clear yX0_clear ∈ pw_wl := pw_in 290 (by decide +kernel) (by decide +kernel)
theorem pw_w291 : Cond.code yX0_clear prog_2_method_11_code 2 (Option.some Jvm.ClassFile.FieldType.int) ∈ pw_wl := pw_in 291 (by decide +kernel) (by decide +kernel)
theorem pw_w296 : Cond.methodLink "TwinKings" 86 yX0_dropLast ∈ pw_wl := pw_in 296 (by decide +kernel) (by decide +kernel)
theorem pw_w297 : Cond.instanceMethod yX0_dropLast ∈ pw_wl := pw_in 297 (by decide +kernel) (by decide +kernel)
theorem pw_w298 : Cond.selects "TwinKings$DeedText" yX0_dropLast yX0_dropLast ∈ pw_wl := pw_in 298 (by decide +kernel) (by decide +kernel)
theorem pw_w299 : Cond.code yX0_dropLast prog_2_method_10_code 1 (Option.some Jvm.ClassFile.FieldType.int) ∈ pw_wl := pw_in 299 (by decide +kernel) (by decide +kernel)
theorem pw_w301 : Cond.instanceMethod yX5_fault ∈ pw_wl := pw_in 301 (by decide +kernel) (by decide +kernel)
theorem pw_w302 : Cond.selects "TwinKings" yX5_fault yX5_fault ∈ pw_wl := pw_in 302 (by decide +kernel) (by decide +kernel)
theorem pw_w303 : Cond.code yX5_fault prog_1_method_5_code 1 (Option.some Jvm.ClassFile.FieldType.int) ∈ pw_wl := pw_in 303 (by decide +kernel) (by decide +kernel)
theorem pw_w304 : Cond.methodLink "TwinKings" 89 yX0_faultPlace ∈ pw_wl := pw_in 304 (by decide +kernel) (by decide +kernel)
theorem pw_w305 : Cond.instanceMethod yX0_faultPlace ∈ pw_wl := pw_in 305 (by decide +kernel) (by decide +kernel)
theorem pw_w306 : Cond.selects "TwinKings$DeedText" yX0_faultPlace yX0_faultPlace ∈ pw_wl := pw_in 306 (by decide +kernel) (by decide +kernel)
theorem pw_w307 : Cond.code yX0_faultPlace prog_2_method_4_code 1 (Option.some Jvm.ClassFile.FieldType.int) ∈ pw_wl := pw_in 307 (by decide +kernel) (by decide +kernel)
theorem pw_w309 : Cond.instanceMethod yX5_deed ∈ pw_wl := pw_in 309 (by decide +kernel) (by decide +kernel)
theorem pw_w310 : Cond.selects "TwinKings" yX5_deed yX5_deed ∈ pw_wl := pw_in 310 (by decide +kernel) (by decide +kernel)
theorem pw_w311 : Cond.code yX5_deed prog_1_method_6_code 3 (Option.some Jvm.ClassFile.FieldType.int) ∈ pw_wl := pw_in 311 (by decide +kernel) (by decide +kernel)
theorem pw_w312 : Cond.methodLink "TwinKings" 92 yX0_has ∈ pw_wl := pw_in 312 (by decide +kernel) (by decide +kernel)
theorem pw_w313 : Cond.instanceMethod yX0_has ∈ pw_wl := pw_in 313 (by decide +kernel) (by decide +kernel)
theorem pw_w314 : Cond.selects "TwinKings$DeedText" yX0_has yX0_has ∈ pw_wl := pw_in 314 (by decide +kernel) (by decide +kernel)
theorem pw_w315 : Cond.code yX0_has prog_2_method_5_code 2 (Option.some Jvm.ClassFile.FieldType.boolean) ∈ pw_wl := pw_in 315 (by decide +kernel) (by decide +kernel)
theorem pw_w316 : Cond.methodLink "TwinKings" 96 yX0_fineOf ∈ pw_wl := pw_in 316 (by decide +kernel) (by decide +kernel)
theorem pw_w317 : Cond.instanceMethod yX0_fineOf ∈ pw_wl := pw_in 317 (by decide +kernel) (by decide +kernel)
theorem pw_w318 : Cond.selects "TwinKings$DeedText" yX0_fineOf yX0_fineOf ∈ pw_wl := pw_in 318 (by decide +kernel) (by decide +kernel)
theorem pw_w319 : Cond.code yX0_fineOf prog_2_method_6_code 2 (Option.some Jvm.ClassFile.FieldType.int) ∈ pw_wl := pw_in 319 (by decide +kernel) (by decide +kernel)
theorem pw_w320 : Cond.methodLink "TwinKings$DeedText" 32 yX0_has ∈ pw_wl := pw_in 320 (by decide +kernel) (by decide +kernel)
theorem pw_w321 : Cond.methodLink "TwinKings" 99 yX0_elderBits ∈ pw_wl := pw_in 321 (by decide +kernel) (by decide +kernel)
theorem pw_w322 : Cond.instanceMethod yX0_elderBits ∈ pw_wl := pw_in 322 (by decide +kernel) (by decide +kernel)
theorem pw_w323 : Cond.selects "TwinKings$DeedText" yX0_elderBits yX0_elderBits ∈ pw_wl := pw_in 323 (by decide +kernel) (by decide +kernel)
theorem pw_w324 : Cond.code yX0_elderBits prog_2_method_7_code 1 (Option.some Jvm.ClassFile.FieldType.int) ∈ pw_wl := pw_in 324 (by decide +kernel) (by decide +kernel)
theorem pw_w325 : Cond.methodLink "TwinKings" 102 yX5_bit ∈ pw_wl := pw_in 325 (by decide +kernel) (by decide +kernel)
theorem pw_w326 : Cond.static yX5_bit ∈ pw_wl := pw_in 326 (by decide +kernel) (by decide +kernel)
theorem pw_w327 : Cond.code yX5_bit prog_1_method_63_code 2 (Option.some Jvm.ClassFile.FieldType.int) ∈ pw_wl := pw_in 327 (by decide +kernel) (by decide +kernel)
theorem pw_w328 : Cond.methodLink "TwinKings" 110 yX0_youngerBits ∈ pw_wl := pw_in 328 (by decide +kernel) (by decide +kernel)
theorem pw_w329 : Cond.instanceMethod yX0_youngerBits ∈ pw_wl := pw_in 329 (by decide +kernel) (by decide +kernel)
theorem pw_w330 : Cond.selects "TwinKings$DeedText" yX0_youngerBits yX0_youngerBits ∈ pw_wl := pw_in 330 (by decide +kernel) (by decide +kernel)
theorem pw_w331 : Cond.code yX0_youngerBits prog_2_method_8_code 4 (Option.some Jvm.ClassFile.FieldType.int) ∈ pw_wl := pw_in 331 (by decide +kernel) (by decide +kernel)
theorem pw_w332 : Cond.methodLink "TwinKings$DeedText" 39 yX0_youngerSays ∈ pw_wl := pw_in 332 (by decide +kernel) (by decide +kernel)
theorem pw_w334 : Cond.instanceMethod yX0_youngerSays ∈ pw_wl := pw_in 334 (by decide +kernel) (by decide +kernel)
theorem pw_w335 : Cond.code yX0_youngerSays prog_2_method_12_code 4 (Option.some Jvm.ClassFile.FieldType.int) ∈ pw_wl := pw_in 335 (by decide +kernel) (by decide +kernel)
theorem pw_w336 : Cond.methodLinkNest "TwinKings$DeedText" 46 yX5_bit "TwinKings" ∈ pw_wl := pw_in 336 (by decide +kernel) (by decide +kernel)
theorem pw_w345 : Cond.methodLink "TwinKings" 116 yX5_isKing ∈ pw_wl := pw_in 345 (by decide +kernel) (by decide +kernel)
theorem pw_w346 : Cond.static yX5_isKing ∈ pw_wl := pw_in 346 (by decide +kernel) (by decide +kernel)
theorem pw_w347 : Cond.code yX5_isKing prog_1_method_51_code 1 (Option.some Jvm.ClassFile.FieldType.boolean) ∈ pw_wl := pw_in 347 (by decide +kernel) (by decide +kernel)
theorem pw_w348 : Cond.methodLink "TwinKings" 119 yX5_isDay ∈ pw_wl := pw_in 348 (by decide +kernel) (by decide +kernel)
theorem pw_w349 : Cond.static yX5_isDay ∈ pw_wl := pw_in 349 (by decide +kernel) (by decide +kernel)
theorem pw_w350 : Cond.code yX5_isDay prog_1_method_50_code 1 (Option.some Jvm.ClassFile.FieldType.boolean) ∈ pw_wl := pw_in 350 (by decide +kernel) (by decide +kernel)
theorem pw_w351 : Cond.methodLink "TwinKings" 122 yX3_add ∈ pw_wl := pw_in 351 (by decide +kernel) (by decide +kernel)
theorem pw_w352 : Cond.instanceMethod yX3_add ∈ pw_wl := pw_in 352 (by decide +kernel) (by decide +kernel)
theorem pw_w353 : Cond.selects "TwinKings$Rows" yX3_add yX3_add ∈ pw_wl := pw_in 353 (by decide +kernel) (by decide +kernel)
theorem pw_w354 : Cond.code yX3_add prog_5_method_3_code 4 (Option.some Jvm.ClassFile.FieldType.int) ∈ pw_wl := pw_in 354 (by decide +kernel) (by decide +kernel)
theorem pw_w360 : Cond.instanceMethod yX5_edict ∈ pw_wl := pw_in 360 (by decide +kernel) (by decide +kernel)
theorem pw_w361 : Cond.selects "TwinKings" yX5_edict yX5_edict ∈ pw_wl := pw_in 361 (by decide +kernel) (by decide +kernel)
theorem pw_w362 : Cond.code yX5_edict prog_1_method_10_code 3 (Option.some Jvm.ClassFile.FieldType.int) ∈ pw_wl := pw_in 362 (by decide +kernel) (by decide +kernel)
theorem pw_w363 : Cond.methodLink "TwinKings" 126 yX5_mayBeDeed ∈ pw_wl := pw_in 363 (by decide +kernel) (by decide +kernel)
theorem pw_w364 : Cond.static yX5_mayBeDeed ∈ pw_wl := pw_in 364 (by decide +kernel) (by decide +kernel)
theorem pw_w365 : Cond.code yX5_mayBeDeed prog_1_method_52_code 1 (Option.some Jvm.ClassFile.FieldType.boolean) ∈ pw_wl := pw_in 365 (by decide +kernel) (by decide +kernel)
theorem pw_w378 : Cond.methodLink "TwinKings" 129 yX5_undoable ∈ pw_wl := pw_in 378 (by decide +kernel) (by decide +kernel)
theorem pw_w380 : Cond.instanceMethod yX5_undoable ∈ pw_wl := pw_in 380 (by decide +kernel) (by decide +kernel)
theorem pw_w381 : Cond.code yX5_undoable prog_1_method_57_code 2 (Option.some (Jvm.ClassFile.FieldType.object "TwinKings$Rows")) ∈ pw_wl := pw_in 381 (by decide +kernel) (by decide +kernel)
theorem pw_w382 : Cond.methodLink "TwinKings" 133 yX3_dropLast ∈ pw_wl := pw_in 382 (by decide +kernel) (by decide +kernel)
theorem pw_w383 : Cond.instanceMethod yX3_dropLast ∈ pw_wl := pw_in 383 (by decide +kernel) (by decide +kernel)
theorem pw_w384 : Cond.selects "TwinKings$Rows" yX3_dropLast yX3_dropLast ∈ pw_wl := pw_in 384 (by decide +kernel) (by decide +kernel)
theorem pw_w385 : Cond.code yX3_dropLast prog_5_method_4_code 1 (Option.some Jvm.ClassFile.FieldType.int) ∈ pw_wl := pw_in 385 (by decide +kernel) (by decide +kernel)
theorem pw_w390 : Cond.methodLink "TwinKings" 134 yX5_isSheet ∈ pw_wl := pw_in 390 (by decide +kernel) (by decide +kernel)
theorem pw_w391 : Cond.static yX5_isSheet ∈ pw_wl := pw_in 391 (by decide +kernel) (by decide +kernel)
theorem pw_w392 : Cond.code yX5_isSheet prog_1_method_53_code 1 (Option.some Jvm.ClassFile.FieldType.boolean) ∈ pw_wl := pw_in 392 (by decide +kernel) (by decide +kernel)
theorem pw_w393 : Cond.methodLink "TwinKings" 137 yX4_isLost ∈ pw_wl := pw_in 393 (by decide +kernel) (by decide +kernel)
theorem pw_w394 : Cond.instanceMethod yX4_isLost ∈ pw_wl := pw_in 394 (by decide +kernel) (by decide +kernel)
theorem pw_w395 : Cond.selects "TwinKings$Sheet" yX4_isLost yX4_isLost ∈ pw_wl := pw_in 395 (by decide +kernel) (by decide +kernel)
theorem pw_w396 : Cond.code yX4_isLost prog_6_method_2_code 1 (Option.some Jvm.ClassFile.FieldType.boolean) ∈ pw_wl := pw_in 396 (by decide +kernel) (by decide +kernel)
theorem pw_w397 : Cond.methodLink "TwinKings" 141 yX5_found ∈ pw_wl := pw_in 397 (by decide +kernel) (by decide +kernel)
theorem pw_w399 : Cond.instanceMethod yX5_found ∈ pw_wl := pw_in 399 (by decide +kernel) (by decide +kernel)
theorem pw_w400 : Cond.code yX5_found prog_1_method_58_code 2 (Option.some Jvm.ClassFile.FieldType.int) ∈ pw_wl := pw_in 400 (by decide +kernel) (by decide +kernel)
theorem pw_w401 : Cond.methodLink "TwinKings" 144 yX4_size ∈ pw_wl := pw_in 401 (by decide +kernel) (by decide +kernel)
theorem pw_w402 : Cond.instanceMethod yX4_size ∈ pw_wl := pw_in 402 (by decide +kernel) (by decide +kernel)
theorem pw_w403 : Cond.selects "TwinKings$Sheet" yX4_size yX4_size ∈ pw_wl := pw_in 403 (by decide +kernel) (by decide +kernel)
theorem pw_w404 : Cond.code yX4_size prog_6_method_4_code 1 (Option.some Jvm.ClassFile.FieldType.int) ∈ pw_wl := pw_in 404 (by decide +kernel) (by decide +kernel)
theorem pw_w405 : Cond.methodLink "TwinKings" 147 yX4_item ∈ pw_wl := pw_in 405 (by decide +kernel) (by decide +kernel)
theorem pw_w406 : Cond.instanceMethod yX4_item ∈ pw_wl := pw_in 406 (by decide +kernel) (by decide +kernel)
theorem pw_w407 : Cond.selects "TwinKings$Sheet" yX4_item yX4_item ∈ pw_wl := pw_in 407 (by decide +kernel) (by decide +kernel)
theorem pw_w408 : Cond.code yX4_item prog_6_method_8_code 2 (Option.some Jvm.ClassFile.FieldType.int) ∈ pw_wl := pw_in 408 (by decide +kernel) (by decide +kernel)
theorem pw_w409 : Cond.methodLinkNest "TwinKings$Sheet" 31 yX5_within "TwinKings" ∈ pw_wl := pw_in 409 (by decide +kernel) (by decide +kernel)
theorem pw_w410 : Cond.methodLink "TwinKings" 150 yX5_edict ∈ pw_wl := pw_in 410 (by decide +kernel) (by decide +kernel)
theorem pw_w412 : Cond.instanceMethod yX5_rules ∈ pw_wl := pw_in 412 (by decide +kernel) (by decide +kernel)
theorem pw_w413 : Cond.selects "TwinKings" yX5_rules yX5_rules ∈ pw_wl := pw_in 413 (by decide +kernel) (by decide +kernel)
theorem pw_w414 : Cond.code yX5_rules prog_1_method_15_code 2 (Option.some Jvm.ClassFile.FieldType.int) ∈ pw_wl := pw_in 414 (by decide +kernel) (by decide +kernel)
theorem pw_w415 : Cond.methodLink "TwinKings" 153 yX5_laws ∈ pw_wl := pw_in 415 (by decide +kernel) (by decide +kernel)
theorem pw_w417 : Cond.instanceMethod yX5_laws ∈ pw_wl := pw_in 417 (by decide +kernel) (by decide +kernel)
theorem pw_w418 : Cond.code yX5_laws prog_1_method_56_code 1 (Option.some (Jvm.ClassFile.FieldType.object "TwinKings$Laws")) ∈ pw_wl := pw_in 418 (by decide +kernel) (by decide +kernel)
theorem pw_w419 : Cond.methodLink "TwinKings" 234 yX1_seat ∈ pw_wl := pw_in 419 (by decide +kernel) (by decide +kernel)
theorem pw_w420 : Cond.instanceMethod yX1_seat ∈ pw_wl := pw_in 420 (by decide +kernel) (by decide +kernel)
theorem pw_w421 : Cond.selects "TwinKings$Laws" yX1_seat yX1_seat ∈ pw_wl := pw_in 421 (by decide +kernel) (by decide +kernel)
theorem pw_w422 : Cond.code yX1_seat prog_3_method_2_code 4 (Option.none : Option Jvm.ClassFile.FieldType) ∈ pw_wl := pw_in 422 (by decide +kernel) (by decide +kernel)
theorem pw_w423 : Cond.methodLink "TwinKings$Laws" 27 yX1_rulerBy ∈ pw_wl := pw_in 423 (by decide +kernel) (by decide +kernel)
theorem pw_w424 : Cond.static yX1_rulerBy ∈ pw_wl := pw_in 424 (by decide +kernel) (by decide +kernel)
theorem pw_w425 : Cond.code yX1_rulerBy prog_3_method_17_code 4 (Option.some Jvm.ClassFile.FieldType.int) ∈ pw_wl := pw_in 425 (by decide +kernel) (by decide +kernel)
theorem pw_w426 : Cond.methodLink "TwinKings$Laws" 109 yX3_holds ∈ pw_wl := pw_in 426 (by decide +kernel) (by decide +kernel)
theorem pw_w427 : Cond.instanceMethod yX3_holds ∈ pw_wl := pw_in 427 (by decide +kernel) (by decide +kernel)
theorem pw_w428 : Cond.selects "TwinKings$Rows" yX3_holds yX3_holds ∈ pw_wl := pw_in 428 (by decide +kernel) (by decide +kernel)
theorem pw_w429 : Cond.code yX3_holds prog_5_method_9_code 4 (Option.some Jvm.ClassFile.FieldType.boolean) ∈ pw_wl := pw_in 429 (by decide +kernel) (by decide +kernel)
theorem pw_w430 : Cond.methodLink "TwinKings$Laws" 77 yX1_isSunday ∈ pw_wl := pw_in 430 (by decide +kernel) (by decide +kernel)
theorem pw_w431 : Cond.static yX1_isSunday ∈ pw_wl := pw_in 431 (by decide +kernel) (by decide +kernel)
theorem pw_w432 : Cond.code yX1_isSunday prog_3_method_15_code 1 (Option.some Jvm.ClassFile.FieldType.boolean) ∈ pw_wl := pw_in 432 (by decide +kernel) (by decide +kernel)
theorem pw_w433 : Cond.methodLink "TwinKings$Laws" 80 yX1_kingInTurn ∈ pw_wl := pw_in 433 (by decide +kernel) (by decide +kernel)
theorem pw_w434 : Cond.static yX1_kingInTurn ∈ pw_wl := pw_in 434 (by decide +kernel) (by decide +kernel)
theorem pw_w435 : Cond.code yX1_kingInTurn prog_3_method_16_code 1 (Option.some Jvm.ClassFile.FieldType.int) ∈ pw_wl := pw_in 435 (by decide +kernel) (by decide +kernel)
theorem pw_w436 : Cond.methodLink "TwinKings" 238 yX1_speak ∈ pw_wl := pw_in 436 (by decide +kernel) (by decide +kernel)
theorem pw_w437 : Cond.instanceMethod yX1_speak ∈ pw_wl := pw_in 437 (by decide +kernel) (by decide +kernel)
theorem pw_w438 : Cond.selects "TwinKings$Laws" yX1_speak yX1_speak ∈ pw_wl := pw_in 438 (by decide +kernel) (by decide +kernel)
theorem pw_w439 : Cond.code yX1_speak prog_3_method_3_code 9 (Option.none : Option Jvm.ClassFile.FieldType) ∈ pw_wl := pw_in 439 (by decide +kernel) (by decide +kernel)
theorem pw_w440 : Cond.methodLink "TwinKings$Laws" 31 yX0_number ∈ pw_wl := pw_in 440 (by decide +kernel) (by decide +kernel)
theorem pw_w441 : Cond.instanceMethod yX0_number ∈ pw_wl := pw_in 441 (by decide +kernel) (by decide +kernel)
theorem pw_w442 : Cond.selects "TwinKings$DeedText" yX0_number yX0_number ∈ pw_wl := pw_in 442 (by decide +kernel) (by decide +kernel)
theorem pw_w443 : Cond.code yX0_number prog_2_method_3_code 1 (Option.some Jvm.ClassFile.FieldType.int) ∈ pw_wl := pw_in 443 (by decide +kernel) (by decide +kernel)
theorem pw_w444 : Cond.methodLink "TwinKings$Laws" 40 yX1_gatherTurned ∈ pw_wl := pw_in 444 (by decide +kernel) (by decide +kernel)
theorem pw_w446 : Cond.instanceMethod yX1_gatherTurned ∈ pw_wl := pw_in 446 (by decide +kernel) (by decide +kernel)
theorem pw_w447 : Cond.code yX1_gatherTurned prog_3_method_18_code 6 (Option.none : Option Jvm.ClassFile.FieldType) ∈ pw_wl := pw_in 447 (by decide +kernel) (by decide +kernel)
theorem pw_w448 : Cond.methodLink "TwinKings$Laws" 115 yX3_size ∈ pw_wl := pw_in 448 (by decide +kernel) (by decide +kernel)
theorem pw_w449 : Cond.instanceMethod yX3_size ∈ pw_wl := pw_in 449 (by decide +kernel) (by decide +kernel)
theorem pw_w450 : Cond.selects "TwinKings$Rows" yX3_size yX3_size ∈ pw_wl := pw_in 450 (by decide +kernel) (by decide +kernel)
theorem pw_w451 : Cond.code yX3_size prog_5_method_2_code 1 (Option.some Jvm.ClassFile.FieldType.int) ∈ pw_wl := pw_in 451 (by decide +kernel) (by decide +kernel)
theorem pw_w452 : Cond.methodLink "TwinKings$Laws" 118 yX3_first ∈ pw_wl := pw_in 452 (by decide +kernel) (by decide +kernel)
theorem pw_w453 : Cond.instanceMethod yX3_first ∈ pw_wl := pw_in 453 (by decide +kernel) (by decide +kernel)
theorem pw_w454 : Cond.selects "TwinKings$Rows" yX3_first yX3_first ∈ pw_wl := pw_in 454 (by decide +kernel) (by decide +kernel)
theorem pw_w455 : Cond.code yX3_first prog_5_method_6_code 2 (Option.some Jvm.ClassFile.FieldType.int) ∈ pw_wl := pw_in 455 (by decide +kernel) (by decide +kernel)
theorem pw_w456 : Cond.methodLinkNest "TwinKings$Rows" 34 yX5_within "TwinKings" ∈ pw_wl := pw_in 456 (by decide +kernel) (by decide +kernel)
theorem pw_w457 : Cond.methodLink "TwinKings$Laws" 121 yX3_second ∈ pw_wl := pw_in 457 (by decide +kernel) (by decide +kernel)
theorem pw_w458 : Cond.instanceMethod yX3_second ∈ pw_wl := pw_in 458 (by decide +kernel) (by decide +kernel)
theorem pw_w459 : Cond.selects "TwinKings$Rows" yX3_second yX3_second ∈ pw_wl := pw_in 459 (by decide +kernel) (by decide +kernel)
theorem pw_w460 : Cond.code yX3_second prog_5_method_7_code 2 (Option.some Jvm.ClassFile.FieldType.int) ∈ pw_wl := pw_in 460 (by decide +kernel) (by decide +kernel)
theorem pw_w461 : Cond.methodLinkNest "TwinKings$Laws" 55 yX5_isDay "TwinKings" ∈ pw_wl := pw_in 461 (by decide +kernel) (by decide +kernel)
theorem pw_w462 : Cond.methodLinkNest "TwinKings$Laws" 62 yX5_within "TwinKings" ∈ pw_wl := pw_in 462 (by decide +kernel) (by decide +kernel)
theorem pw_w463 : Cond.methodLink "TwinKings$Laws" 44 yX0_elderBits ∈ pw_wl := pw_in 463 (by decide +kernel) (by decide +kernel)
theorem pw_w464 : Cond.methodLink "TwinKings$Laws" 47 yX0_youngerBits ∈ pw_wl := pw_in 464 (by decide +kernel) (by decide +kernel)
theorem pw_w465 : Cond.methodLink "TwinKings$Laws" 51 yX1_openBy ∈ pw_wl := pw_in 465 (by decide +kernel) (by decide +kernel)
theorem pw_w467 : Cond.instanceMethod yX1_openBy ∈ pw_wl := pw_in 467 (by decide +kernel) (by decide +kernel)
theorem pw_w468 : Cond.code yX1_openBy prog_3_method_19_code 4 (Option.some Jvm.ClassFile.FieldType.int) ∈ pw_wl := pw_in 468 (by decide +kernel) (by decide +kernel)
theorem pw_w469 : Cond.methodLink "TwinKings$Laws" 124 yX1_everyDeed ∈ pw_wl := pw_in 469 (by decide +kernel) (by decide +kernel)
theorem pw_w470 : Cond.instanceMethod yX1_everyDeed ∈ pw_wl := pw_in 470 (by decide +kernel) (by decide +kernel)
theorem pw_w471 : Cond.selects "TwinKings$Laws" yX1_everyDeed yX1_everyDeed ∈ pw_wl := pw_in 471 (by decide +kernel) (by decide +kernel)
theorem pw_w472 : Cond.code yX1_everyDeed prog_3_method_4_code 1 (Option.some Jvm.ClassFile.FieldType.int) ∈ pw_wl := pw_in 472 (by decide +kernel) (by decide +kernel)
theorem pw_w473 : Cond.methodLink "TwinKings" 157 yX1_rulerOn ∈ pw_wl := pw_in 473 (by decide +kernel) (by decide +kernel)
theorem pw_w474 : Cond.instanceMethod yX1_rulerOn ∈ pw_wl := pw_in 474 (by decide +kernel) (by decide +kernel)
theorem pw_w475 : Cond.selects "TwinKings$Laws" yX1_rulerOn yX1_rulerOn ∈ pw_wl := pw_in 475 (by decide +kernel) (by decide +kernel)
theorem pw_w476 : Cond.code yX1_rulerOn prog_3_method_5_code 2 (Option.some Jvm.ClassFile.FieldType.int) ∈ pw_wl := pw_in 476 (by decide +kernel) (by decide +kernel)
theorem pw_w478 : Cond.instanceMethod yX5_allows ∈ pw_wl := pw_in 478 (by decide +kernel) (by decide +kernel)
theorem pw_w479 : Cond.selects "TwinKings" yX5_allows yX5_allows ∈ pw_wl := pw_in 479 (by decide +kernel) (by decide +kernel)
theorem pw_w480 : Cond.code yX5_allows prog_1_method_16_code 3 (Option.some Jvm.ClassFile.FieldType.int) ∈ pw_wl := pw_in 480 (by decide +kernel) (by decide +kernel)
theorem pw_w481 : Cond.methodLink "TwinKings" 160 yX1_saidOn ∈ pw_wl := pw_in 481 (by decide +kernel) (by decide +kernel)
theorem pw_w482 : Cond.instanceMethod yX1_saidOn ∈ pw_wl := pw_in 482 (by decide +kernel) (by decide +kernel)
theorem pw_w483 : Cond.selects "TwinKings$Laws" yX1_saidOn yX1_saidOn ∈ pw_wl := pw_in 483 (by decide +kernel) (by decide +kernel)
theorem pw_w484 : Cond.code yX1_saidOn prog_3_method_7_code 3 (Option.some Jvm.ClassFile.FieldType.int) ∈ pw_wl := pw_in 484 (by decide +kernel) (by decide +kernel)
theorem pw_w486 : Cond.instanceMethod yX5_allowed ∈ pw_wl := pw_in 486 (by decide +kernel) (by decide +kernel)
theorem pw_w487 : Cond.selects "TwinKings" yX5_allowed yX5_allowed ∈ pw_wl := pw_in 487 (by decide +kernel) (by decide +kernel)
theorem pw_w488 : Cond.code yX5_allowed prog_1_method_17_code 2 (Option.some Jvm.ClassFile.FieldType.int) ∈ pw_wl := pw_in 488 (by decide +kernel) (by decide +kernel)
theorem pw_w489 : Cond.methodLink "TwinKings" 163 yX1_openOn ∈ pw_wl := pw_in 489 (by decide +kernel) (by decide +kernel)
theorem pw_w490 : Cond.instanceMethod yX1_openOn ∈ pw_wl := pw_in 490 (by decide +kernel) (by decide +kernel)
theorem pw_w491 : Cond.selects "TwinKings$Laws" yX1_openOn yX1_openOn ∈ pw_wl := pw_in 491 (by decide +kernel) (by decide +kernel)
theorem pw_w492 : Cond.code yX1_openOn prog_3_method_8_code 2 (Option.some Jvm.ClassFile.FieldType.int) ∈ pw_wl := pw_in 492 (by decide +kernel) (by decide +kernel)
theorem pw_w494 : Cond.instanceMethod yX5_never ∈ pw_wl := pw_in 494 (by decide +kernel) (by decide +kernel)
theorem pw_w495 : Cond.selects "TwinKings" yX5_never yX5_never ∈ pw_wl := pw_in 495 (by decide +kernel) (by decide +kernel)
theorem pw_w496 : Cond.code yX5_never prog_1_method_18_code 4 (Option.some Jvm.ClassFile.FieldType.int) ∈ pw_wl := pw_in 496 (by decide +kernel) (by decide +kernel)
theorem pw_w497 : Cond.methodLink "TwinKings" 166 yX1_everyDeed ∈ pw_wl := pw_in 497 (by decide +kernel) (by decide +kernel)
theorem pw_w499 : Cond.instanceMethod yX5_alike ∈ pw_wl := pw_in 499 (by decide +kernel) (by decide +kernel)
theorem pw_w500 : Cond.selects "TwinKings" yX5_alike yX5_alike ∈ pw_wl := pw_in 500 (by decide +kernel) (by decide +kernel)
theorem pw_w501 : Cond.code yX5_alike prog_1_method_19_code 3 (Option.some Jvm.ClassFile.FieldType.int) ∈ pw_wl := pw_in 501 (by decide +kernel) (by decide +kernel)
theorem pw_w503 : Cond.instanceMethod yX5_crossing ∈ pw_wl := pw_in 503 (by decide +kernel) (by decide +kernel)
theorem pw_w504 : Cond.selects "TwinKings" yX5_crossing yX5_crossing ∈ pw_wl := pw_in 504 (by decide +kernel) (by decide +kernel)
theorem pw_w505 : Cond.code yX5_crossing prog_1_method_20_code 2 (Option.some Jvm.ClassFile.FieldType.int) ∈ pw_wl := pw_in 505 (by decide +kernel) (by decide +kernel)
theorem pw_w506 : Cond.methodLink "TwinKings" 169 yX1_startDays ∈ pw_wl := pw_in 506 (by decide +kernel) (by decide +kernel)
theorem pw_w507 : Cond.instanceMethod yX1_startDays ∈ pw_wl := pw_in 507 (by decide +kernel) (by decide +kernel)
theorem pw_w508 : Cond.selects "TwinKings$Laws" yX1_startDays yX1_startDays ∈ pw_wl := pw_in 508 (by decide +kernel) (by decide +kernel)
theorem pw_w509 : Cond.code yX1_startDays prog_3_method_10_code 8 (Option.some Jvm.ClassFile.FieldType.long) ∈ pw_wl := pw_in 509 (by decide +kernel) (by decide +kernel)
theorem pw_w510 : Cond.methodLink "TwinKings$Laws" 70 yX1_openDays ∈ pw_wl := pw_in 510 (by decide +kernel) (by decide +kernel)
theorem pw_w511 : Cond.instanceMethod yX1_openDays ∈ pw_wl := pw_in 511 (by decide +kernel) (by decide +kernel)
theorem pw_w512 : Cond.selects "TwinKings$Laws" yX1_openDays yX1_openDays ∈ pw_wl := pw_in 512 (by decide +kernel) (by decide +kernel)
theorem pw_w513 : Cond.code yX1_openDays prog_3_method_9_code 5 (Option.some Jvm.ClassFile.FieldType.long) ∈ pw_wl := pw_in 513 (by decide +kernel) (by decide +kernel)
theorem pw_w514 : Cond.methodLinkNest "TwinKings$Laws" 66 yX5_bit "TwinKings" ∈ pw_wl := pw_in 514 (by decide +kernel) (by decide +kernel)
theorem pw_w516 : Cond.instanceMethod yX5_fined ∈ pw_wl := pw_in 516 (by decide +kernel) (by decide +kernel)
theorem pw_w517 : Cond.selects "TwinKings" yX5_fined yX5_fined ∈ pw_wl := pw_in 517 (by decide +kernel) (by decide +kernel)
theorem pw_w518 : Cond.code yX5_fined prog_1_method_21_code 3 (Option.some Jvm.ClassFile.FieldType.int) ∈ pw_wl := pw_in 518 (by decide +kernel) (by decide +kernel)
theorem pw_w519 : Cond.methodLink "TwinKings" 173 yX3_size ∈ pw_wl := pw_in 519 (by decide +kernel) (by decide +kernel)
theorem pw_w520 : Cond.methodLink "TwinKings" 174 yX5_finesInCoin ∈ pw_wl := pw_in 520 (by decide +kernel) (by decide +kernel)
theorem pw_w522 : Cond.instanceMethod yX5_finesInCoin ∈ pw_wl := pw_in 522 (by decide +kernel) (by decide +kernel)
theorem pw_w523 : Cond.code yX5_finesInCoin prog_1_method_60_code 11 (Option.some Jvm.ClassFile.FieldType.int) ∈ pw_wl := pw_in 523 (by decide +kernel) (by decide +kernel)
theorem pw_w524 : Cond.methodLink "TwinKings" 388 yX3_second ∈ pw_wl := pw_in 524 (by decide +kernel) (by decide +kernel)
theorem pw_w525 : Cond.methodLink "TwinKings" 391 yX3_first ∈ pw_wl := pw_in 525 (by decide +kernel) (by decide +kernel)
theorem pw_w526 : Cond.methodLink "TwinKings" 394 yX3_third ∈ pw_wl := pw_in 526 (by decide +kernel) (by decide +kernel)
theorem pw_w527 : Cond.instanceMethod yX3_third ∈ pw_wl := pw_in 527 (by decide +kernel) (by decide +kernel)
theorem pw_w528 : Cond.selects "TwinKings$Rows" yX3_third yX3_third ∈ pw_wl := pw_in 528 (by decide +kernel) (by decide +kernel)
theorem pw_w529 : Cond.code yX3_third prog_5_method_8_code 2 (Option.some Jvm.ClassFile.FieldType.int) ∈ pw_wl := pw_in 529 (by decide +kernel) (by decide +kernel)
theorem pw_w530 : Cond.methodLink "TwinKings" 397 yX1_coinOn ∈ pw_wl := pw_in 530 (by decide +kernel) (by decide +kernel)
theorem pw_w531 : Cond.instanceMethod yX1_coinOn ∈ pw_wl := pw_in 531 (by decide +kernel) (by decide +kernel)
theorem pw_w532 : Cond.selects "TwinKings$Laws" yX1_coinOn yX1_coinOn ∈ pw_wl := pw_in 532 (by decide +kernel) (by decide +kernel)
theorem pw_w533 : Cond.code yX1_coinOn prog_3_method_6_code 2 (Option.some Jvm.ClassFile.FieldType.int) ∈ pw_wl := pw_in 533 (by decide +kernel) (by decide +kernel)
theorem pw_w534 : Cond.methodLink "TwinKings$Laws" 59 yX1_rulerOn ∈ pw_wl := pw_in 534 (by decide +kernel) (by decide +kernel)
theorem pw_w536 : Cond.instanceMethod yX5_coins ∈ pw_wl := pw_in 536 (by decide +kernel) (by decide +kernel)
theorem pw_w537 : Cond.selects "TwinKings" yX5_coins yX5_coins ∈ pw_wl := pw_in 537 (by decide +kernel) (by decide +kernel)
theorem pw_w538 : Cond.code yX5_coins prog_1_method_22_code 5 (Option.some Jvm.ClassFile.FieldType.int) ∈ pw_wl := pw_in 538 (by decide +kernel) (by decide +kernel)
theorem pw_w540 : Cond.instanceMethod yX5_soonest ∈ pw_wl := pw_in 540 (by decide +kernel) (by decide +kernel)
theorem pw_w541 : Cond.selects "TwinKings" yX5_soonest yX5_soonest ∈ pw_wl := pw_in 541 (by decide +kernel) (by decide +kernel)
theorem pw_w542 : Cond.code yX5_soonest prog_1_method_23_code 4 (Option.some Jvm.ClassFile.FieldType.int) ∈ pw_wl := pw_in 542 (by decide +kernel) (by decide +kernel)
theorem pw_w543 : Cond.methodLink "TwinKings" 178 yX5_firstDay ∈ pw_wl := pw_in 543 (by decide +kernel) (by decide +kernel)
theorem pw_w544 : Cond.static yX5_firstDay ∈ pw_wl := pw_in 544 (by decide +kernel) (by decide +kernel)
theorem pw_w545 : Cond.code yX5_firstDay prog_1_method_65_code 4 (Option.some Jvm.ClassFile.FieldType.int) ∈ pw_wl := pw_in 545 (by decide +kernel) (by decide +kernel)
theorem pw_w546 : Cond.methodLink "TwinKings" 404 yX5_holdsDay ∈ pw_wl := pw_in 546 (by decide +kernel) (by decide +kernel)
theorem pw_w547 : Cond.static yX5_holdsDay ∈ pw_wl := pw_in 547 (by decide +kernel) (by decide +kernel)
theorem pw_w548 : Cond.code yX5_holdsDay prog_1_method_64_code 3 (Option.some Jvm.ClassFile.FieldType.boolean) ∈ pw_wl := pw_in 548 (by decide +kernel) (by decide +kernel)
theorem pw_w550 : Cond.instanceMethod yX5_cheapest ∈ pw_wl := pw_in 550 (by decide +kernel) (by decide +kernel)
theorem pw_w551 : Cond.selects "TwinKings" yX5_cheapest yX5_cheapest ∈ pw_wl := pw_in 551 (by decide +kernel) (by decide +kernel)
theorem pw_w552 : Cond.code yX5_cheapest prog_1_method_24_code 11 (Option.some Jvm.ClassFile.FieldType.int) ∈ pw_wl := pw_in 552 (by decide +kernel) (by decide +kernel)
theorem pw_w553 : Cond.methodLink "TwinKings" 182 yX1_openDays ∈ pw_wl := pw_in 553 (by decide +kernel) (by decide +kernel)
theorem pw_w554 : Cond.methodLink "TwinKings" 186 yX5_closedDays ∈ pw_wl := pw_in 554 (by decide +kernel) (by decide +kernel)
theorem pw_w555 : Cond.static yX5_closedDays ∈ pw_wl := pw_in 555 (by decide +kernel) (by decide +kernel)
theorem pw_w556 : Cond.code yX5_closedDays prog_1_method_67_code 6 (Option.some Jvm.ClassFile.FieldType.int) ∈ pw_wl := pw_in 556 (by decide +kernel) (by decide +kernel)
theorem pw_w558 : Cond.instanceMethod yX5_finish ∈ pw_wl := pw_in 558 (by decide +kernel) (by decide +kernel)
theorem pw_w559 : Cond.selects "TwinKings" yX5_finish yX5_finish ∈ pw_wl := pw_in 559 (by decide +kernel) (by decide +kernel)
theorem pw_w560 : Cond.code yX5_finish prog_1_method_25_code 4 (Option.some Jvm.ClassFile.FieldType.int) ∈ pw_wl := pw_in 560 (by decide +kernel) (by decide +kernel)
theorem pw_w561 : Cond.methodLink "TwinKings" 190 yX2_prepare ∈ pw_wl := pw_in 561 (by decide +kernel) (by decide +kernel)
theorem pw_w562 : Cond.instanceMethod yX2_prepare ∈ pw_wl := pw_in 562 (by decide +kernel) (by decide +kernel)
theorem pw_w563 : Cond.selects "TwinKings$Planner" yX2_prepare yX2_prepare ∈ pw_wl := pw_in 563 (by decide +kernel) (by decide +kernel)
theorem pw_w564 : Cond.code yX2_prepare prog_4_method_2_code 4 (Option.none : Option Jvm.ClassFile.FieldType) ∈ pw_wl := pw_in 564 (by decide +kernel) (by decide +kernel)
theorem pw_w565 : Cond.methodLink "TwinKings$Planner" 28 yX3_size ∈ pw_wl := pw_in 565 (by decide +kernel) (by decide +kernel)
theorem pw_w566 : Cond.methodLink "TwinKings$Planner" 34 yJ9_min_7cf53 ∈ pw_wl := pw_in 566 (by decide +kernel) (by decide +kernel)
theorem pw_w567 : Cond.static yJ9_min_7cf53 ∈ pw_wl := pw_in 567 (by decide +kernel) (by decide +kernel)
theorem pw_w568 : Cond.code yJ9_min_7cf53 prog_11_method_69_code 2 (Option.some Jvm.ClassFile.FieldType.int) ∈ pw_wl := pw_in 568 (by decide +kernel) (by decide +kernel)
theorem pw_w569 : Cond.methodLink "TwinKings$Planner" 44 yX3_second ∈ pw_wl := pw_in 569 (by decide +kernel) (by decide +kernel)
theorem pw_w570 : Cond.methodLink "TwinKings$Planner" 48 yX3_first ∈ pw_wl := pw_in 570 (by decide +kernel) (by decide +kernel)
theorem pw_w571 : Cond.methodLink "TwinKings$Planner" 51 yX1_startDays ∈ pw_wl := pw_in 571 (by decide +kernel) (by decide +kernel)
theorem pw_w572 : Cond.methodLink "TwinKings" 194 yX2_layInTurn ∈ pw_wl := pw_in 572 (by decide +kernel) (by decide +kernel)
theorem pw_w573 : Cond.instanceMethod yX2_layInTurn ∈ pw_wl := pw_in 573 (by decide +kernel) (by decide +kernel)
theorem pw_w574 : Cond.selects "TwinKings$Planner" yX2_layInTurn yX2_layInTurn ∈ pw_wl := pw_in 574 (by decide +kernel) (by decide +kernel)
theorem pw_w575 : Cond.code yX2_layInTurn prog_4_method_3_code 5 (Option.some Jvm.ClassFile.FieldType.int) ∈ pw_wl := pw_in 575 (by decide +kernel) (by decide +kernel)
theorem pw_w576 : Cond.methodLinkNest "TwinKings$Planner" 57 yX5_firstDay "TwinKings" ∈ pw_wl := pw_in 576 (by decide +kernel) (by decide +kernel)
theorem pw_w577 : Cond.methodLink "TwinKings" 197 yX2_startInTurn ∈ pw_wl := pw_in 577 (by decide +kernel) (by decide +kernel)
theorem pw_w578 : Cond.instanceMethod yX2_startInTurn ∈ pw_wl := pw_in 578 (by decide +kernel) (by decide +kernel)
theorem pw_w579 : Cond.selects "TwinKings$Planner" yX2_startInTurn yX2_startInTurn ∈ pw_wl := pw_in 579 (by decide +kernel) (by decide +kernel)
theorem pw_w580 : Cond.code yX2_startInTurn prog_4_method_4_code 2 (Option.some Jvm.ClassFile.FieldType.int) ∈ pw_wl := pw_in 580 (by decide +kernel) (by decide +kernel)
theorem pw_w581 : Cond.methodLinkNest "TwinKings$Planner" 61 yX5_within "TwinKings" ∈ pw_wl := pw_in 581 (by decide +kernel) (by decide +kernel)
theorem pw_w583 : Cond.instanceMethod yX5_plan ∈ pw_wl := pw_in 583 (by decide +kernel) (by decide +kernel)
theorem pw_w584 : Cond.selects "TwinKings" yX5_plan yX5_plan ∈ pw_wl := pw_in 584 (by decide +kernel) (by decide +kernel)
theorem pw_w585 : Cond.code yX5_plan prog_1_method_26_code 4 (Option.some Jvm.ClassFile.FieldType.int) ∈ pw_wl := pw_in 585 (by decide +kernel) (by decide +kernel)
theorem pw_w586 : Cond.methodLink "TwinKings" 200 yX2_findBestRow ∈ pw_wl := pw_in 586 (by decide +kernel) (by decide +kernel)
theorem pw_w587 : Cond.instanceMethod yX2_findBestRow ∈ pw_wl := pw_in 587 (by decide +kernel) (by decide +kernel)
theorem pw_w588 : Cond.selects "TwinKings$Planner" yX2_findBestRow yX2_findBestRow ∈ pw_wl := pw_in 588 (by decide +kernel) (by decide +kernel)
theorem pw_w589 : Cond.code yX2_findBestRow prog_4_method_5_code 2 (Option.some Jvm.ClassFile.FieldType.int) ∈ pw_wl := pw_in 589 (by decide +kernel) (by decide +kernel)
theorem pw_w590 : Cond.methodLink "TwinKings$Planner" 68 yX2_search ∈ pw_wl := pw_in 590 (by decide +kernel) (by decide +kernel)
theorem pw_w592 : Cond.instanceMethod yX2_search ∈ pw_wl := pw_in 592 (by decide +kernel) (by decide +kernel)
theorem pw_w593 : Cond.code yX2_search prog_4_method_7_code 7 (Option.none : Option Jvm.ClassFile.FieldType) ∈ pw_wl := pw_in 593 (by decide +kernel) (by decide +kernel)
theorem pw_w594 : Cond.methodLink "TwinKings$Planner" 72 yX2_keepRow ∈ pw_wl := pw_in 594 (by decide +kernel) (by decide +kernel)
theorem pw_w596 : Cond.instanceMethod yX2_keepRow ∈ pw_wl := pw_in 596 (by decide +kernel) (by decide +kernel)
theorem pw_w597 : Cond.code yX2_keepRow prog_4_method_8_code 2 (Option.none : Option Jvm.ClassFile.FieldType) ∈ pw_wl := pw_in 597 (by decide +kernel) (by decide +kernel)
theorem pw_w598 : Cond.methodLinkNest "TwinKings$Planner" 75 yX5_bit "TwinKings" ∈ pw_wl := pw_in 598 (by decide +kernel) (by decide +kernel)
theorem pw_w599 : Cond.methodLink "TwinKings" 203 yX2_taskInBestRow ∈ pw_wl := pw_in 599 (by decide +kernel) (by decide +kernel)
theorem pw_w600 : Cond.instanceMethod yX2_taskInBestRow ∈ pw_wl := pw_in 600 (by decide +kernel) (by decide +kernel)
theorem pw_w601 : Cond.selects "TwinKings$Planner" yX2_taskInBestRow yX2_taskInBestRow ∈ pw_wl := pw_in 601 (by decide +kernel) (by decide +kernel)
theorem pw_w602 : Cond.code yX2_taskInBestRow prog_4_method_6_code 2 (Option.some Jvm.ClassFile.FieldType.int) ∈ pw_wl := pw_in 602 (by decide +kernel) (by decide +kernel)
theorem pw_w604 : Cond.instanceMethod yX5_words ∈ pw_wl := pw_in 604 (by decide +kernel) (by decide +kernel)
theorem pw_w605 : Cond.selects "TwinKings" yX5_words yX5_words ∈ pw_wl := pw_in 605 (by decide +kernel) (by decide +kernel)
theorem pw_w606 : Cond.code yX5_words prog_1_method_27_code 5 (Option.some Jvm.ClassFile.FieldType.int) ∈ pw_wl := pw_in 606 (by decide +kernel) (by decide +kernel)
theorem pw_w607 : Cond.methodLink "TwinKings" 206 yX1_numberAtBest ∈ pw_wl := pw_in 607 (by decide +kernel) (by decide +kernel)
theorem pw_w608 : Cond.instanceMethod yX1_numberAtBest ∈ pw_wl := pw_in 608 (by decide +kernel) (by decide +kernel)
theorem pw_w609 : Cond.selects "TwinKings$Laws" yX1_numberAtBest yX1_numberAtBest ∈ pw_wl := pw_in 609 (by decide +kernel) (by decide +kernel)
theorem pw_w610 : Cond.code yX1_numberAtBest prog_3_method_12_code 3 (Option.some Jvm.ClassFile.FieldType.int) ∈ pw_wl := pw_in 610 (by decide +kernel) (by decide +kernel)
theorem pw_w611 : Cond.methodLink "TwinKings$Laws" 86 yX1_playOn ∈ pw_wl := pw_in 611 (by decide +kernel) (by decide +kernel)
theorem pw_w613 : Cond.instanceMethod yX1_playOn ∈ pw_wl := pw_in 613 (by decide +kernel) (by decide +kernel)
theorem pw_w614 : Cond.code yX1_playOn prog_3_method_14_code 9 (Option.some Jvm.ClassFile.FieldType.int) ∈ pw_wl := pw_in 614 (by decide +kernel) (by decide +kernel)
theorem pw_w615 : Cond.methodLink "TwinKings$Laws" 83 yX1_saidOn ∈ pw_wl := pw_in 615 (by decide +kernel) (by decide +kernel)
theorem pw_w616 : Cond.methodLink "TwinKings$Laws" 96 yJ6_bitCount_0f7a4 ∈ pw_wl := pw_in 616 (by decide +kernel) (by decide +kernel)
theorem pw_w617 : Cond.static yJ6_bitCount_0f7a4 ∈ pw_wl := pw_in 617 (by decide +kernel) (by decide +kernel)
theorem pw_w618 : Cond.code yJ6_bitCount_0f7a4 prog_9_method_49_code 1 (Option.some Jvm.ClassFile.FieldType.int) ∈ pw_wl := pw_in 618 (by decide +kernel) (by decide +kernel)
theorem pw_w619 : Cond.constant "java/lang/Integer" 265 (1431655765 : Int32) ∈ pw_wl := pw_in 619 (by decide +kernel) (by decide +kernel)
theorem pw_w620 : Cond.constant "java/lang/Integer" 266 (858993459 : Int32) ∈ pw_wl := pw_in 620 (by decide +kernel) (by decide +kernel)
theorem pw_w621 : Cond.constant "java/lang/Integer" 267 (252645135 : Int32) ∈ pw_wl := pw_in 621 (by decide +kernel) (by decide +kernel)
theorem pw_w622 : Cond.methodLinkNest "TwinKings$Laws" 90 yX5_isKing "TwinKings" ∈ pw_wl := pw_in 622 (by decide +kernel) (by decide +kernel)
theorem pw_w623 : Cond.methodLink "TwinKings$Laws" 101 yJ9_max_7cf53 ∈ pw_wl := pw_in 623 (by decide +kernel) (by decide +kernel)
theorem pw_w624 : Cond.methodLink "TwinKings$Laws" 106 yJ9_min_7cf53 ∈ pw_wl := pw_in 624 (by decide +kernel) (by decide +kernel)
theorem pw_w625 : Cond.methodLink "TwinKings" 209 yX1_wordAtBest ∈ pw_wl := pw_in 625 (by decide +kernel) (by decide +kernel)
theorem pw_w626 : Cond.instanceMethod yX1_wordAtBest ∈ pw_wl := pw_in 626 (by decide +kernel) (by decide +kernel)
theorem pw_w627 : Cond.selects "TwinKings$Laws" yX1_wordAtBest yX1_wordAtBest ∈ pw_wl := pw_in 627 (by decide +kernel) (by decide +kernel)
theorem pw_w628 : Cond.code yX1_wordAtBest prog_3_method_13_code 7 (Option.some Jvm.ClassFile.FieldType.int) ∈ pw_wl := pw_in 628 (by decide +kernel) (by decide +kernel)
theorem pw_w629 : Cond.methodLink "TwinKings$Laws" 93 yX1_numberAtBest ∈ pw_wl := pw_in 629 (by decide +kernel) (by decide +kernel)
theorem pw_w642 : Cond.methodLink "TwinKings" 212 yX3_clear ∈ pw_wl := pw_in 642 (by decide +kernel) (by decide +kernel)
theorem pw_w643 : Cond.instanceMethod yX3_clear ∈ pw_wl := pw_in 643 (by decide +kernel) (by decide +kernel)
theorem pw_w644 : Cond.selects "TwinKings$Rows" yX3_clear yX3_clear ∈ pw_wl := pw_in 644 (by decide +kernel) (by decide +kernel)
theorem pw_w645 : Cond.code yX3_clear prog_5_method_5_code 2 (Option.some Jvm.ClassFile.FieldType.int) ∈ pw_wl := pw_in 645 (by decide +kernel) (by decide +kernel)
theorem pw_w647 : Cond.instanceMethod yX5_when ∈ pw_wl := pw_in 647 (by decide +kernel) (by decide +kernel)
theorem pw_w648 : Cond.selects "TwinKings" yX5_when yX5_when ∈ pw_wl := pw_in 648 (by decide +kernel) (by decide +kernel)
theorem pw_w649 : Cond.code yX5_when prog_1_method_31_code 4 (Option.some Jvm.ClassFile.FieldType.int) ∈ pw_wl := pw_in 649 (by decide +kernel) (by decide +kernel)
theorem pw_w650 : Cond.methodLink "TwinKings" 213 yX5_daysAsSeen ∈ pw_wl := pw_in 650 (by decide +kernel) (by decide +kernel)
theorem pw_w652 : Cond.instanceMethod yX5_daysAsSeen ∈ pw_wl := pw_in 652 (by decide +kernel) (by decide +kernel)
theorem pw_w653 : Cond.code yX5_daysAsSeen prog_1_method_61_code 8 (Option.some Jvm.ClassFile.FieldType.long) ∈ pw_wl := pw_in 653 (by decide +kernel) (by decide +kernel)
theorem pw_w654 : Cond.constantLong "TwinKings" 400 (1099511627775 : Int64) ∈ pw_wl := pw_in 654 (by decide +kernel) (by decide +kernel)
theorem pw_w655 : Cond.constantLong "TwinKings" 402 (-1 : Int64) ∈ pw_wl := pw_in 655 (by decide +kernel) (by decide +kernel)
theorem pw_w656 : Cond.methodLink "TwinKings" 217 yJ13_bitCount_95d88 ∈ pw_wl := pw_in 656 (by decide +kernel) (by decide +kernel)
theorem pw_w657 : Cond.static yJ13_bitCount_95d88 ∈ pw_wl := pw_in 657 (by decide +kernel) (by decide +kernel)
theorem pw_w658 : Cond.code yJ13_bitCount_95d88 prog_10_method_50_code 2 (Option.some Jvm.ClassFile.FieldType.int) ∈ pw_wl := pw_in 658 (by decide +kernel) (by decide +kernel)
theorem pw_w659 : Cond.constantLong "java/lang/Long" 314 (6148914691236517205 : Int64) ∈ pw_wl := pw_in 659 (by decide +kernel) (by decide +kernel)
theorem pw_w660 : Cond.constantLong "java/lang/Long" 316 (3689348814741910323 : Int64) ∈ pw_wl := pw_in 660 (by decide +kernel) (by decide +kernel)
theorem pw_w661 : Cond.constantLong "java/lang/Long" 318 (1085102592571150095 : Int64) ∈ pw_wl := pw_in 661 (by decide +kernel) (by decide +kernel)
theorem pw_w662 : Cond.methodLink "TwinKings" 223 yX5_dayInOrder ∈ pw_wl := pw_in 662 (by decide +kernel) (by decide +kernel)
theorem pw_w663 : Cond.static yX5_dayInOrder ∈ pw_wl := pw_in 663 (by decide +kernel) (by decide +kernel)
theorem pw_w664 : Cond.code yX5_dayInOrder prog_1_method_66_code 5 (Option.some Jvm.ClassFile.FieldType.int) ∈ pw_wl := pw_in 664 (by decide +kernel) (by decide +kernel)
theorem pw_w666 : Cond.instanceMethod yX5_ask ∈ pw_wl := pw_in 666 (by decide +kernel) (by decide +kernel)
theorem pw_w667 : Cond.selects "TwinKings" yX5_ask yX5_ask ∈ pw_wl := pw_in 667 (by decide +kernel) (by decide +kernel)
theorem pw_w668 : Cond.code yX5_ask prog_1_method_32_code 9 (Option.some Jvm.ClassFile.FieldType.int) ∈ pw_wl := pw_in 668 (by decide +kernel) (by decide +kernel)
theorem pw_w669 : Cond.methodLink "TwinKings" 226 yX0_number ∈ pw_wl := pw_in 669 (by decide +kernel) (by decide +kernel)
theorem pw_w670 : Cond.methodLink "TwinKings" 229 yJ9_max_7cf53 ∈ pw_wl := pw_in 670 (by decide +kernel) (by decide +kernel)
theorem pw_w672 : Cond.instanceMethod yX5_forged ∈ pw_wl := pw_in 672 (by decide +kernel) (by decide +kernel)
theorem pw_w673 : Cond.selects "TwinKings" yX5_forged yX5_forged ∈ pw_wl := pw_in 673 (by decide +kernel) (by decide +kernel)
theorem pw_w674 : Cond.code yX5_forged prog_1_method_33_code 3 (Option.some Jvm.ClassFile.FieldType.int) ∈ pw_wl := pw_in 674 (by decide +kernel) (by decide +kernel)
theorem pw_w675 : Cond.methodLink "TwinKings" 242 yX5_agreesWithBook ∈ pw_wl := pw_in 675 (by decide +kernel) (by decide +kernel)
theorem pw_w677 : Cond.instanceMethod yX5_agreesWithBook ∈ pw_wl := pw_in 677 (by decide +kernel) (by decide +kernel)
theorem pw_w678 : Cond.code yX5_agreesWithBook prog_1_method_62_code 4 (Option.some Jvm.ClassFile.FieldType.boolean) ∈ pw_wl := pw_in 678 (by decide +kernel) (by decide +kernel)
theorem pw_w680 : Cond.instanceMethod yX5_chance ∈ pw_wl := pw_in 680 (by decide +kernel) (by decide +kernel)
theorem pw_w681 : Cond.selects "TwinKings" yX5_chance yX5_chance ∈ pw_wl := pw_in 681 (by decide +kernel) (by decide +kernel)
theorem pw_w682 : Cond.code yX5_chance prog_1_method_34_code 12 (Option.some Jvm.ClassFile.FieldType.long) ∈ pw_wl := pw_in 682 (by decide +kernel) (by decide +kernel)
theorem pw_w683 : Cond.constantLong "TwinKings" 246 (-9223372036854775806 : Int64) ∈ pw_wl := pw_in 683 (by decide +kernel) (by decide +kernel)
theorem pw_w684 : Cond.methodLink "TwinKings" 248 yX1_openIn256 ∈ pw_wl := pw_in 684 (by decide +kernel) (by decide +kernel)
theorem pw_w685 : Cond.instanceMethod yX1_openIn256 ∈ pw_wl := pw_in 685 (by decide +kernel) (by decide +kernel)
theorem pw_w686 : Cond.selects "TwinKings$Laws" yX1_openIn256 yX1_openIn256 ∈ pw_wl := pw_in 686 (by decide +kernel) (by decide +kernel)
theorem pw_w687 : Cond.code yX1_openIn256 prog_3_method_11_code 7 (Option.some Jvm.ClassFile.FieldType.int) ∈ pw_wl := pw_in 687 (by decide +kernel) (by decide +kernel)
theorem pw_w688 : Cond.methodLink "TwinKings$Laws" 74 yX1_openOn ∈ pw_wl := pw_in 688 (by decide +kernel) (by decide +kernel)
theorem pw_w689 : Cond.constantLong "TwinKings" 251 (256 : Int64) ∈ pw_wl := pw_in 689 (by decide +kernel) (by decide +kernel)
theorem pw_w690 : Cond.methodLink "TwinKings" 253 yX5_inLowestTerms ∈ pw_wl := pw_in 690 (by decide +kernel) (by decide +kernel)
theorem pw_w691 : Cond.static yX5_inLowestTerms ∈ pw_wl := pw_in 691 (by decide +kernel) (by decide +kernel)
theorem pw_w692 : Cond.code yX5_inLowestTerms prog_1_method_68_code 10 (Option.some Jvm.ClassFile.FieldType.long) ∈ pw_wl := pw_in 692 (by decide +kernel) (by decide +kernel)
theorem pw_w694 : Cond.instanceMethod yX5_year ∈ pw_wl := pw_in 694 (by decide +kernel) (by decide +kernel)
theorem pw_w695 : Cond.selects "TwinKings" yX5_year yX5_year ∈ pw_wl := pw_in 695 (by decide +kernel) (by decide +kernel)
theorem pw_w696 : Cond.code yX5_year prog_1_method_35_code 10 (Option.some Jvm.ClassFile.FieldType.int) ∈ pw_wl := pw_in 696 (by decide +kernel) (by decide +kernel)
theorem pw_w697 : Cond.constant "TwinKings" 257 (1103515245 : Int32) ∈ pw_wl := pw_in 697 (by decide +kernel) (by decide +kernel)
theorem pw_w702 : Cond.methodLink "TwinKings" 258 yX5_isForm ∈ pw_wl := pw_in 702 (by decide +kernel) (by decide +kernel)
theorem pw_w703 : Cond.static yX5_isForm ∈ pw_wl := pw_in 703 (by decide +kernel) (by decide +kernel)
theorem pw_w704 : Cond.code yX5_isForm prog_1_method_54_code 1 (Option.some Jvm.ClassFile.FieldType.boolean) ∈ pw_wl := pw_in 704 (by decide +kernel) (by decide +kernel)
theorem pw_w705 : Cond.methodLink "TwinKings" 261 yX4_begin ∈ pw_wl := pw_in 705 (by decide +kernel) (by decide +kernel)
theorem pw_w706 : Cond.instanceMethod yX4_begin ∈ pw_wl := pw_in 706 (by decide +kernel) (by decide +kernel)
theorem pw_w707 : Cond.selects "TwinKings$Sheet" yX4_begin yX4_begin ∈ pw_wl := pw_in 707 (by decide +kernel) (by decide +kernel)
theorem pw_w708 : Cond.code yX4_begin prog_6_method_5_code 4 (Option.none : Option Jvm.ClassFile.FieldType) ∈ pw_wl := pw_in 708 (by decide +kernel) (by decide +kernel)
theorem pw_w709 : Cond.methodLink "TwinKings$Sheet" 22 yJ9_min_7cf53 ∈ pw_wl := pw_in 709 (by decide +kernel) (by decide +kernel)
theorem pw_w710 : Cond.methodLink "TwinKings$Sheet" 28 yJ9_max_7cf53 ∈ pw_wl := pw_in 710 (by decide +kernel) (by decide +kernel)
theorem pw_w715 : Cond.methodLink "TwinKings" 265 yX4_tear ∈ pw_wl := pw_in 715 (by decide +kernel) (by decide +kernel)
theorem pw_w716 : Cond.instanceMethod yX4_tear ∈ pw_wl := pw_in 716 (by decide +kernel) (by decide +kernel)
theorem pw_w717 : Cond.selects "TwinKings$Sheet" yX4_tear yX4_tear ∈ pw_wl := pw_in 717 (by decide +kernel) (by decide +kernel)
theorem pw_w718 : Cond.code yX4_tear prog_6_method_6_code 2 (Option.some Jvm.ClassFile.FieldType.int) ∈ pw_wl := pw_in 718 (by decide +kernel) (by decide +kernel)
theorem pw_w723 : Cond.methodLink "TwinKings" 268 yX5_itemFinding ∈ pw_wl := pw_in 723 (by decide +kernel) (by decide +kernel)
theorem pw_w724 : Cond.static yX5_itemFinding ∈ pw_wl := pw_in 724 (by decide +kernel) (by decide +kernel)
theorem pw_w725 : Cond.code yX5_itemFinding prog_1_method_59_code 3 (Option.some Jvm.ClassFile.FieldType.int) ∈ pw_wl := pw_in 725 (by decide +kernel) (by decide +kernel)
theorem pw_w726 : Cond.methodLink "TwinKings" 278 yX4_form ∈ pw_wl := pw_in 726 (by decide +kernel) (by decide +kernel)
theorem pw_w727 : Cond.instanceMethod yX4_form ∈ pw_wl := pw_in 727 (by decide +kernel) (by decide +kernel)
theorem pw_w728 : Cond.selects "TwinKings$Sheet" yX4_form yX4_form ∈ pw_wl := pw_in 728 (by decide +kernel) (by decide +kernel)
theorem pw_w729 : Cond.code yX4_form prog_6_method_3_code 1 (Option.some Jvm.ClassFile.FieldType.int) ∈ pw_wl := pw_in 729 (by decide +kernel) (by decide +kernel)
theorem pw_w730 : Cond.methodLink "TwinKings" 281 yX4_hasRange ∈ pw_wl := pw_in 730 (by decide +kernel) (by decide +kernel)
theorem pw_w731 : Cond.instanceMethod yX4_hasRange ∈ pw_wl := pw_in 731 (by decide +kernel) (by decide +kernel)
theorem pw_w732 : Cond.selects "TwinKings$Sheet" yX4_hasRange yX4_hasRange ∈ pw_wl := pw_in 732 (by decide +kernel) (by decide +kernel)
theorem pw_w733 : Cond.code yX4_hasRange prog_6_method_7_code 3 (Option.some Jvm.ClassFile.FieldType.boolean) ∈ pw_wl := pw_in 733 (by decide +kernel) (by decide +kernel)
theorem pw_w734 : Cond.methodLink "TwinKings" 272 yX4_keep ∈ pw_wl := pw_in 734 (by decide +kernel) (by decide +kernel)
theorem pw_w735 : Cond.instanceMethod yX4_keep ∈ pw_wl := pw_in 735 (by decide +kernel) (by decide +kernel)
theorem pw_w736 : Cond.selects "TwinKings$Sheet" yX4_keep yX4_keep ∈ pw_wl := pw_in 736 (by decide +kernel) (by decide +kernel)
theorem pw_w737 : Cond.code yX4_keep prog_6_method_9_code 3 (Option.none : Option Jvm.ClassFile.FieldType) ∈ pw_wl := pw_in 737 (by decide +kernel) (by decide +kernel)
theorem pw_w738 : Cond.methodLink "TwinKings$Sheet" 35 yX4_cut ∈ pw_wl := pw_in 738 (by decide +kernel) (by decide +kernel)
theorem pw_w740 : Cond.instanceMethod yX4_cut ∈ pw_wl := pw_in 740 (by decide +kernel) (by decide +kernel)
theorem pw_w741 : Cond.code yX4_cut prog_6_method_11_code 2 (Option.some Jvm.ClassFile.FieldType.int) ∈ pw_wl := pw_in 741 (by decide +kernel) (by decide +kernel)
theorem pw_w746 : Cond.constant "TwinKings" 277 (-2147483648 : Int32) ∈ pw_wl := pw_in 746 (by decide +kernel) (by decide +kernel)
theorem pw_w751 : Cond.methodLink "TwinKings" 285 yX4_takeItems ∈ pw_wl := pw_in 751 (by decide +kernel) (by decide +kernel)
theorem pw_w752 : Cond.instanceMethod yX4_takeItems ∈ pw_wl := pw_in 752 (by decide +kernel) (by decide +kernel)
theorem pw_w753 : Cond.selects "TwinKings$Sheet" yX4_takeItems yX4_takeItems ∈ pw_wl := pw_in 753 (by decide +kernel) (by decide +kernel)
theorem pw_w754 : Cond.code yX4_takeItems prog_6_method_10_code 5 (Option.none : Option Jvm.ClassFile.FieldType) ∈ pw_wl := pw_in 754 (by decide +kernel) (by decide +kernel)
theorem pw_w755 : Cond.methodLink "TwinKings$Sheet" 39 yX4_hasRange ∈ pw_wl := pw_in 755 (by decide +kernel) (by decide +kernel)
theorem pw_w763 : Cond.methodLink "TwinKings" 289 yJ9_min_7cf53 ∈ pw_wl := pw_in 763 (by decide +kernel) (by decide +kernel)
theorem pw_w765 : Cond.instanceMethod yX5_count ∈ pw_wl := pw_in 765 (by decide +kernel) (by decide +kernel)
theorem pw_w766 : Cond.selects "TwinKings" yX5_count yX5_count ∈ pw_wl := pw_in 766 (by decide +kernel) (by decide +kernel)
theorem pw_w767 : Cond.code yX5_count prog_1_method_42_code 2 (Option.some Jvm.ClassFile.FieldType.int) ∈ pw_wl := pw_in 767 (by decide +kernel) (by decide +kernel)
theorem pw_w768 : Cond.methodLink "TwinKings" 292 yX0_length ∈ pw_wl := pw_in 768 (by decide +kernel) (by decide +kernel)
theorem pw_w769 : Cond.instanceMethod yX0_length ∈ pw_wl := pw_in 769 (by decide +kernel) (by decide +kernel)
theorem pw_w770 : Cond.selects "TwinKings$DeedText" yX0_length yX0_length ∈ pw_wl := pw_in 770 (by decide +kernel) (by decide +kernel)
theorem pw_w771 : Cond.code yX0_length prog_2_method_2_code 1 (Option.some Jvm.ClassFile.FieldType.int) ∈ pw_wl := pw_in 771 (by decide +kernel) (by decide +kernel)
theorem pw_w776 : Cond.constantLong "TwinKings" 298 (17 : Int64) ∈ pw_wl := pw_in 776 (by decide +kernel) (by decide +kernel)
theorem pw_w777 : Cond.methodLink "TwinKings" 300 yX5_count ∈ pw_wl := pw_in 777 (by decide +kernel) (by decide +kernel)
theorem pw_w778 : Cond.methodLink "TwinKings" 303 yX5_mix ∈ pw_wl := pw_in 778 (by decide +kernel) (by decide +kernel)
theorem pw_w779 : Cond.static yX5_mix ∈ pw_wl := pw_in 779 (by decide +kernel) (by decide +kernel)
theorem pw_w780 : Cond.code yX5_mix prog_1_method_44_code 4 (Option.some Jvm.ClassFile.FieldType.long) ∈ pw_wl := pw_in 780 (by decide +kernel) (by decide +kernel)
theorem pw_w781 : Cond.constantLong "TwinKings" 341 (31 : Int64) ∈ pw_wl := pw_in 781 (by decide +kernel) (by decide +kernel)
theorem pw_w782 : Cond.methodLink "TwinKings" 307 yX5_fault ∈ pw_wl := pw_in 782 (by decide +kernel) (by decide +kernel)
theorem pw_w783 : Cond.methodLink "TwinKings" 310 yX5_mixDeeds ∈ pw_wl := pw_in 783 (by decide +kernel) (by decide +kernel)
theorem pw_w785 : Cond.instanceMethod yX5_mixDeeds ∈ pw_wl := pw_in 785 (by decide +kernel) (by decide +kernel)
theorem pw_w786 : Cond.code yX5_mixDeeds prog_1_method_45_code 6 (Option.some Jvm.ClassFile.FieldType.long) ∈ pw_wl := pw_in 786 (by decide +kernel) (by decide +kernel)
theorem pw_w787 : Cond.methodLink "TwinKings" 343 yX5_deed ∈ pw_wl := pw_in 787 (by decide +kernel) (by decide +kernel)
theorem pw_w788 : Cond.methodLink "TwinKings" 346 yX5_crossing ∈ pw_wl := pw_in 788 (by decide +kernel) (by decide +kernel)
theorem pw_w789 : Cond.methodLink "TwinKings" 349 yX5_soonest ∈ pw_wl := pw_in 789 (by decide +kernel) (by decide +kernel)
theorem pw_w790 : Cond.methodLink "TwinKings" 352 yX5_cheapest ∈ pw_wl := pw_in 790 (by decide +kernel) (by decide +kernel)
theorem pw_w791 : Cond.methodLink "TwinKings" 356 yX5_chance ∈ pw_wl := pw_in 791 (by decide +kernel) (by decide +kernel)
theorem pw_w792 : Cond.methodLink "TwinKings" 314 yX5_mixDays ∈ pw_wl := pw_in 792 (by decide +kernel) (by decide +kernel)
theorem pw_w794 : Cond.instanceMethod yX5_mixDays ∈ pw_wl := pw_in 794 (by decide +kernel) (by decide +kernel)
theorem pw_w795 : Cond.code yX5_mixDays prog_1_method_46_code 9 (Option.some Jvm.ClassFile.FieldType.long) ∈ pw_wl := pw_in 795 (by decide +kernel) (by decide +kernel)
theorem pw_w798 : Cond.methodLink "TwinKings" 364 yX5_rules ∈ pw_wl := pw_in 798 (by decide +kernel) (by decide +kernel)
theorem pw_w799 : Cond.methodLink "TwinKings" 367 yX5_allows ∈ pw_wl := pw_in 799 (by decide +kernel) (by decide +kernel)
theorem pw_w800 : Cond.methodLink "TwinKings" 370 yX5_allowed ∈ pw_wl := pw_in 800 (by decide +kernel) (by decide +kernel)
theorem pw_w801 : Cond.methodLink "TwinKings" 317 yX5_never ∈ pw_wl := pw_in 801 (by decide +kernel) (by decide +kernel)
theorem pw_w802 : Cond.methodLink "TwinKings" 320 yX5_alike ∈ pw_wl := pw_in 802 (by decide +kernel) (by decide +kernel)
theorem pw_w803 : Cond.methodLink "TwinKings" 323 yX5_mixFines ∈ pw_wl := pw_in 803 (by decide +kernel) (by decide +kernel)
theorem pw_w805 : Cond.instanceMethod yX5_mixFines ∈ pw_wl := pw_in 805 (by decide +kernel) (by decide +kernel)
theorem pw_w806 : Cond.code yX5_mixFines prog_1_method_47_code 6 (Option.some Jvm.ClassFile.FieldType.long) ∈ pw_wl := pw_in 806 (by decide +kernel) (by decide +kernel)
theorem pw_w807 : Cond.methodLink "TwinKings" 373 yX5_fined ∈ pw_wl := pw_in 807 (by decide +kernel) (by decide +kernel)
theorem pw_w808 : Cond.methodLink "TwinKings" 376 yX5_coins ∈ pw_wl := pw_in 808 (by decide +kernel) (by decide +kernel)
theorem pw_w809 : Cond.methodLink "TwinKings" 326 yX5_mixPlans ∈ pw_wl := pw_in 809 (by decide +kernel) (by decide +kernel)
theorem pw_w811 : Cond.instanceMethod yX5_mixPlans ∈ pw_wl := pw_in 811 (by decide +kernel) (by decide +kernel)
theorem pw_w812 : Cond.code yX5_mixPlans prog_1_method_48_code 5 (Option.some Jvm.ClassFile.FieldType.long) ∈ pw_wl := pw_in 812 (by decide +kernel) (by decide +kernel)
theorem pw_w813 : Cond.methodLink "TwinKings" 379 yX5_finish ∈ pw_wl := pw_in 813 (by decide +kernel) (by decide +kernel)
theorem pw_w814 : Cond.methodLink "TwinKings" 382 yX5_plan ∈ pw_wl := pw_in 814 (by decide +kernel) (by decide +kernel)
theorem pw_w815 : Cond.methodLink "TwinKings" 385 yX5_words ∈ pw_wl := pw_in 815 (by decide +kernel) (by decide +kernel)
theorem pw_w816 : Cond.methodLink "TwinKings" 329 yX5_when ∈ pw_wl := pw_in 816 (by decide +kernel) (by decide +kernel)
theorem pw_w817 : Cond.methodLink "TwinKings" 332 yX5_ask ∈ pw_wl := pw_in 817 (by decide +kernel) (by decide +kernel)
theorem pw_w818 : Cond.methodLink "TwinKings" 335 yX5_forged ∈ pw_wl := pw_in 818 (by decide +kernel) (by decide +kernel)
theorem pw_w819 : Cond.methodLink "TwinKings" 338 yX5_year ∈ pw_wl := pw_in 819 (by decide +kernel) (by decide +kernel)
theorem pw_w826 : Cond.fieldLink "TwinKingsModel" 7 "TwinKingsModel" "text" "[I" ∈ pw_wl := pw_in 826 (by decide +kernel) (by decide +kernel)
theorem pw_w827 : Cond.fieldLink "TwinKingsModel" 110 "TwinKingsModel" "typed" "I" ∈ pw_wl := pw_in 827 (by decide +kernel) (by decide +kernel)
theorem pw_w828 : Cond.fieldLink "TwinKingsModel" 114 "TwinKingsModel" "deeds" "I" ∈ pw_wl := pw_in 828 (by decide +kernel) (by decide +kernel)
theorem pw_w829 : Cond.fieldLink "TwinKingsModel" 13 "TwinKingsModel" "fines" "[I" ∈ pw_wl := pw_in 829 (by decide +kernel) (by decide +kernel)
theorem pw_w830 : Cond.fieldLink "TwinKingsModel" 117 "TwinKingsModel" "elderFirst" "I" ∈ pw_wl := pw_in 830 (by decide +kernel) (by decide +kernel)
theorem pw_w831 : Cond.fieldLink "TwinKingsModel" 131 "TwinKingsModel" "ruleNow" "I" ∈ pw_wl := pw_in 831 (by decide +kernel) (by decide +kernel)
theorem pw_w832 : Cond.fieldLink "TwinKingsModel" 148 "TwinKingsModel" "courtNow" "I" ∈ pw_wl := pw_in 832 (by decide +kernel) (by decide +kernel)
theorem pw_w833 : Cond.fieldLink "TwinKingsModel" 16 "TwinKingsModel" "many" "[I" ∈ pw_wl := pw_in 833 (by decide +kernel) (by decide +kernel)
theorem pw_w834 : Cond.fieldLink "TwinKingsModel" 19 "TwinKingsModel" "sickKing" "[I" ∈ pw_wl := pw_in 834 (by decide +kernel) (by decide +kernel)
theorem pw_w835 : Cond.fieldLink "TwinKingsModel" 22 "TwinKingsModel" "sickDay" "[I" ∈ pw_wl := pw_in 835 (by decide +kernel) (by decide +kernel)
theorem pw_w836 : Cond.fieldLink "TwinKingsModel" 25 "TwinKingsModel" "leapDay" "[I" ∈ pw_wl := pw_in 836 (by decide +kernel) (by decide +kernel)
theorem pw_w837 : Cond.fieldLink "TwinKingsModel" 28 "TwinKingsModel" "edictDay" "[I" ∈ pw_wl := pw_in 837 (by decide +kernel) (by decide +kernel)
theorem pw_w838 : Cond.fieldLink "TwinKingsModel" 31 "TwinKingsModel" "edictDeed" "[I" ∈ pw_wl := pw_in 838 (by decide +kernel) (by decide +kernel)
theorem pw_w839 : Cond.fieldLink "TwinKingsModel" 34 "TwinKingsModel" "doneDay" "[I" ∈ pw_wl := pw_in 839 (by decide +kernel) (by decide +kernel)
theorem pw_w840 : Cond.fieldLink "TwinKingsModel" 37 "TwinKingsModel" "doneDeed" "[I" ∈ pw_wl := pw_in 840 (by decide +kernel) (by decide +kernel)
theorem pw_w841 : Cond.fieldLink "TwinKingsModel" 40 "TwinKingsModel" "doneDays" "[I" ∈ pw_wl := pw_in 841 (by decide +kernel) (by decide +kernel)
theorem pw_w842 : Cond.fieldLink "TwinKingsModel" 43 "TwinKingsModel" "taskDeed" "[I" ∈ pw_wl := pw_in 842 (by decide +kernel) (by decide +kernel)
theorem pw_w843 : Cond.fieldLink "TwinKingsModel" 46 "TwinKingsModel" "taskDays" "[I" ∈ pw_wl := pw_in 843 (by decide +kernel) (by decide +kernel)
theorem pw_w844 : Cond.fieldLink "TwinKingsModel" 49 "TwinKingsModel" "rulers" "[I" ∈ pw_wl := pw_in 844 (by decide +kernel) (by decide +kernel)
theorem pw_w845 : Cond.fieldLink "TwinKingsModel" 52 "TwinKingsModel" "says" "[I" ∈ pw_wl := pw_in 845 (by decide +kernel) (by decide +kernel)
theorem pw_w846 : Cond.fieldLink "TwinKingsModel" 55 "TwinKingsModel" "allowedOn" "[I" ∈ pw_wl := pw_in 846 (by decide +kernel) (by decide +kernel)
theorem pw_w847 : Cond.fieldLink "TwinKingsModel" 176 "TwinKingsModel" "without" "I" ∈ pw_wl := pw_in 847 (by decide +kernel) (by decide +kernel)
theorem pw_w848 : Cond.fieldLink "TwinKingsModel" 185 "TwinKingsModel" "wordsFrom" "I" ∈ pw_wl := pw_in 848 (by decide +kernel) (by decide +kernel)
theorem pw_w849 : Cond.fieldLink "TwinKingsModel" 179 "TwinKingsModel" "wordsMany" "I" ∈ pw_wl := pw_in 849 (by decide +kernel) (by decide +kernel)
theorem pw_w850 : Cond.fieldLink "TwinKingsModel" 58 "TwinKingsModel" "wordOf" "[I" ∈ pw_wl := pw_in 850 (by decide +kernel) (by decide +kernel)
theorem pw_w851 : Cond.fieldLink "TwinKingsModel" 61 "TwinKingsModel" "begun" "[I" ∈ pw_wl := pw_in 851 (by decide +kernel) (by decide +kernel)
theorem pw_w852 : Cond.fieldLink "TwinKingsModel" 64 "TwinKingsModel" "order" "[I" ∈ pw_wl := pw_in 852 (by decide +kernel) (by decide +kernel)
theorem pw_w853 : Cond.fieldLink "TwinKingsModel" 67 "TwinKingsModel" "bestOrder" "[I" ∈ pw_wl := pw_in 853 (by decide +kernel) (by decide +kernel)
theorem pw_w854 : Cond.fieldLink "TwinKingsModel" 70 "TwinKingsModel" "outs" "[I" ∈ pw_wl := pw_in 854 (by decide +kernel) (by decide +kernel)
theorem pw_w855 : Cond.fieldLink "TwinKingsModel" 260 "TwinKingsModel" "seens" "I" ∈ pw_wl := pw_in 855 (by decide +kernel) (by decide +kernel)
theorem pw_w856 : Cond.fieldLink "TwinKingsModel" 73 "TwinKingsModel" "seenDeed" "[I" ∈ pw_wl := pw_in 856 (by decide +kernel) (by decide +kernel)
theorem pw_w857 : Cond.fieldLink "TwinKingsModel" 76 "TwinKingsModel" "seenIs" "[I" ∈ pw_wl := pw_in 857 (by decide +kernel) (by decide +kernel)
theorem pw_w858 : Cond.fieldLink "TwinKingsModel" 263 "TwinKingsModel" "books" "I" ∈ pw_wl := pw_in 858 (by decide +kernel) (by decide +kernel)
theorem pw_w859 : Cond.fieldLink "TwinKingsModel" 79 "TwinKingsModel" "bookDay" "[I" ∈ pw_wl := pw_in 859 (by decide +kernel) (by decide +kernel)
theorem pw_w860 : Cond.fieldLink "TwinKingsModel" 82 "TwinKingsModel" "bookDeed" "[I" ∈ pw_wl := pw_in 860 (by decide +kernel) (by decide +kernel)
theorem pw_w861 : Cond.fieldLink "TwinKingsModel" 85 "TwinKingsModel" "bookIs" "[I" ∈ pw_wl := pw_in 861 (by decide +kernel) (by decide +kernel)
theorem pw_w862 : Cond.fieldLink "TwinKingsModel" 88 "TwinKingsModel" "isThere" "[Z" ∈ pw_wl := pw_in 862 (by decide +kernel) (by decide +kernel)
theorem pw_w863 : Cond.fieldLink "TwinKingsModel" 92 "TwinKingsModel" "forms" "[I" ∈ pw_wl := pw_in 863 (by decide +kernel) (by decide +kernel)
theorem pw_w864 : Cond.fieldLink "TwinKingsModel" 95 "TwinKingsModel" "sizes" "[I" ∈ pw_wl := pw_in 864 (by decide +kernel) (by decide +kernel)
theorem pw_w865 : Cond.fieldLink "TwinKingsModel" 98 "TwinKingsModel" "items" "[I" ∈ pw_wl := pw_in 865 (by decide +kernel) (by decide +kernel)
theorem pw_w866 : Cond.fieldLink "TwinKingsModel" 101 "TwinKingsModel" "moved" "[I" ∈ pw_wl := pw_in 866 (by decide +kernel) (by decide +kernel)
theorem pw_w867 : Cond.fieldLink "TwinKingsModel" 302 "TwinKingsModel" "finding" "I" ∈ pw_wl := pw_in 867 (by decide +kernel) (by decide +kernel)
theorem pw_w958 : Cond.methodLink "TwinKingsModel" 106 yX6_in ∈ pw_wl := pw_in 958 (by decide +kernel) (by decide +kernel)
theorem pw_w959 : Cond.static yX6_in ∈ pw_wl := pw_in 959 (by decide +kernel) (by decide +kernel)
theorem pw_w960 : Cond.code yX6_in prog_8_method_3_code 3 (Option.some Jvm.ClassFile.FieldType.boolean) ∈ pw_wl := pw_in 960 (by decide +kernel) (by decide +kernel)
theorem pw_w973 : Cond.methodLink "TwinKingsModel" 120 yX6_faultNow ∈ pw_wl := pw_in 973 (by decide +kernel) (by decide +kernel)
theorem pw_w975 : Cond.instanceMethod yX6_faultNow ∈ pw_wl := pw_in 975 (by decide +kernel) (by decide +kernel)
theorem pw_w976 : Cond.code yX6_faultNow prog_8_method_14_code 5 (Option.some Jvm.ClassFile.FieldType.int) ∈ pw_wl := pw_in 976 (by decide +kernel) (by decide +kernel)
theorem pw_w981 : Cond.methodLink "TwinKingsModel" 137 yX6_isDeed ∈ pw_wl := pw_in 981 (by decide +kernel) (by decide +kernel)
theorem pw_w983 : Cond.instanceMethod yX6_isDeed ∈ pw_wl := pw_in 983 (by decide +kernel) (by decide +kernel)
theorem pw_w984 : Cond.code yX6_isDeed prog_8_method_17_code 2 (Option.some Jvm.ClassFile.FieldType.boolean) ∈ pw_wl := pw_in 984 (by decide +kernel) (by decide +kernel)
theorem pw_w985 : Cond.methodLink "TwinKingsModel" 124 yX6_reads ∈ pw_wl := pw_in 985 (by decide +kernel) (by decide +kernel)
theorem pw_w987 : Cond.instanceMethod yX6_reads ∈ pw_wl := pw_in 987 (by decide +kernel) (by decide +kernel)
theorem pw_w988 : Cond.code yX6_reads prog_8_method_16_code 2 (Option.none : Option Jvm.ClassFile.FieldType) ∈ pw_wl := pw_in 988 (by decide +kernel) (by decide +kernel)
theorem pw_w989 : Cond.methodLink "TwinKingsModel" 141 yX6_deedOf ∈ pw_wl := pw_in 989 (by decide +kernel) (by decide +kernel)
theorem pw_w991 : Cond.instanceMethod yX6_deedOf ∈ pw_wl := pw_in 991 (by decide +kernel) (by decide +kernel)
theorem pw_w992 : Cond.code yX6_deedOf prog_8_method_20_code 3 (Option.some Jvm.ClassFile.FieldType.int) ∈ pw_wl := pw_in 992 (by decide +kernel) (by decide +kernel)
theorem pw_w993 : Cond.methodLink "TwinKingsModel" 134 yX6_youngerFirst ∈ pw_wl := pw_in 993 (by decide +kernel) (by decide +kernel)
theorem pw_w995 : Cond.instanceMethod yX6_youngerFirst ∈ pw_wl := pw_in 995 (by decide +kernel) (by decide +kernel)
theorem pw_w996 : Cond.code yX6_youngerFirst prog_8_method_19_code 5 (Option.some Jvm.ClassFile.FieldType.int) ∈ pw_wl := pw_in 996 (by decide +kernel) (by decide +kernel)
theorem pw_w997 : Cond.methodLink "TwinKingsModel" 127 yX6_isIn ∈ pw_wl := pw_in 997 (by decide +kernel) (by decide +kernel)
theorem pw_w998 : Cond.static yX6_isIn ∈ pw_wl := pw_in 998 (by decide +kernel) (by decide +kernel)
theorem pw_w999 : Cond.code yX6_isIn prog_8_method_4_code 2 (Option.some Jvm.ClassFile.FieldType.boolean) ∈ pw_wl := pw_in 999 (by decide +kernel) (by decide +kernel)
theorem pw_w1004 : Cond.methodLink "TwinKingsModel" 145 yX6_isTwo ∈ pw_wl := pw_in 1004 (by decide +kernel) (by decide +kernel)
theorem pw_w1005 : Cond.static yX6_isTwo ∈ pw_wl := pw_in 1005 (by decide +kernel) (by decide +kernel)
theorem pw_w1006 : Cond.code yX6_isTwo prog_8_method_10_code 1 (Option.some Jvm.ClassFile.FieldType.boolean) ∈ pw_wl := pw_in 1006 (by decide +kernel) (by decide +kernel)
theorem pw_w1011 : Cond.methodLink "TwinKingsModel" 151 yX6_isDay ∈ pw_wl := pw_in 1011 (by decide +kernel) (by decide +kernel)
theorem pw_w1012 : Cond.static yX6_isDay ∈ pw_wl := pw_in 1012 (by decide +kernel) (by decide +kernel)
theorem pw_w1013 : Cond.code yX6_isDay prog_8_method_8_code 1 (Option.some Jvm.ClassFile.FieldType.boolean) ∈ pw_wl := pw_in 1013 (by decide +kernel) (by decide +kernel)
theorem pw_w1019 : Cond.instanceMethod yX6_edict ∈ pw_wl := pw_in 1019 (by decide +kernel) (by decide +kernel)
theorem pw_w1020 : Cond.selects "TwinKingsModel" yX6_edict yX6_edict ∈ pw_wl := pw_in 1020 (by decide +kernel) (by decide +kernel)
theorem pw_w1021 : Cond.code yX6_edict prog_8_method_25_code 3 (Option.some Jvm.ClassFile.FieldType.int) ∈ pw_wl := pw_in 1021 (by decide +kernel) (by decide +kernel)
theorem pw_w1022 : Cond.methodLink "TwinKingsModel" 154 yX6_isEight ∈ pw_wl := pw_in 1022 (by decide +kernel) (by decide +kernel)
theorem pw_w1023 : Cond.static yX6_isEight ∈ pw_wl := pw_in 1023 (by decide +kernel) (by decide +kernel)
theorem pw_w1024 : Cond.code yX6_isEight prog_8_method_9_code 1 (Option.some Jvm.ClassFile.FieldType.boolean) ∈ pw_wl := pw_in 1024 (by decide +kernel) (by decide +kernel)
theorem pw_w1041 : Cond.methodLink "TwinKingsModel" 157 yX6_isSheet ∈ pw_wl := pw_in 1041 (by decide +kernel) (by decide +kernel)
theorem pw_w1042 : Cond.static yX6_isSheet ∈ pw_wl := pw_in 1042 (by decide +kernel) (by decide +kernel)
theorem pw_w1043 : Cond.code yX6_isSheet prog_8_method_85_code 1 (Option.some Jvm.ClassFile.FieldType.boolean) ∈ pw_wl := pw_in 1043 (by decide +kernel) (by decide +kernel)
theorem pw_w1044 : Cond.methodLink "TwinKingsModel" 160 yX6_meets ∈ pw_wl := pw_in 1044 (by decide +kernel) (by decide +kernel)
theorem pw_w1046 : Cond.instanceMethod yX6_meets ∈ pw_wl := pw_in 1046 (by decide +kernel) (by decide +kernel)
theorem pw_w1047 : Cond.code yX6_meets prog_8_method_84_code 2 (Option.some Jvm.ClassFile.FieldType.int) ∈ pw_wl := pw_in 1047 (by decide +kernel) (by decide +kernel)
theorem pw_w1048 : Cond.methodLink "TwinKingsModel" 164 yX6_edict ∈ pw_wl := pw_in 1048 (by decide +kernel) (by decide +kernel)
theorem pw_w1053 : Cond.methodLink "TwinKingsModel" 173 yX6_rulesOf ∈ pw_wl := pw_in 1053 (by decide +kernel) (by decide +kernel)
theorem pw_w1055 : Cond.instanceMethod yX6_rulesOf ∈ pw_wl := pw_in 1055 (by decide +kernel) (by decide +kernel)
theorem pw_w1056 : Cond.code yX6_rulesOf prog_8_method_32_code 3 (Option.some Jvm.ClassFile.FieldType.int) ∈ pw_wl := pw_in 1056 (by decide +kernel) (by decide +kernel)
theorem pw_w1057 : Cond.methodLink "TwinKingsModel" 167 yX6_isLeap ∈ pw_wl := pw_in 1057 (by decide +kernel) (by decide +kernel)
theorem pw_w1059 : Cond.instanceMethod yX6_isLeap ∈ pw_wl := pw_in 1059 (by decide +kernel) (by decide +kernel)
theorem pw_w1060 : Cond.code yX6_isLeap prog_8_method_31_code 4 (Option.some Jvm.ClassFile.FieldType.boolean) ∈ pw_wl := pw_in 1060 (by decide +kernel) (by decide +kernel)
theorem pw_w1061 : Cond.methodLink "TwinKingsModel" 170 yX6_isSick ∈ pw_wl := pw_in 1061 (by decide +kernel) (by decide +kernel)
theorem pw_w1063 : Cond.instanceMethod yX6_isSick ∈ pw_wl := pw_in 1063 (by decide +kernel) (by decide +kernel)
theorem pw_w1064 : Cond.code yX6_isSick prog_8_method_30_code 5 (Option.some Jvm.ClassFile.FieldType.boolean) ∈ pw_wl := pw_in 1064 (by decide +kernel) (by decide +kernel)
theorem pw_w1069 : Cond.methodLink "TwinKingsModel" 197 yX6_allowsOf ∈ pw_wl := pw_in 1069 (by decide +kernel) (by decide +kernel)
theorem pw_w1071 : Cond.instanceMethod yX6_allowsOf ∈ pw_wl := pw_in 1071 (by decide +kernel) (by decide +kernel)
theorem pw_w1072 : Cond.code yX6_allowsOf prog_8_method_37_code 3 (Option.some Jvm.ClassFile.FieldType.int) ∈ pw_wl := pw_in 1072 (by decide +kernel) (by decide +kernel)
theorem pw_w1073 : Cond.methodLink "TwinKingsModel" 194 yX6_laysTold ∈ pw_wl := pw_in 1073 (by decide +kernel) (by decide +kernel)
theorem pw_w1075 : Cond.instanceMethod yX6_laysTold ∈ pw_wl := pw_in 1075 (by decide +kernel) (by decide +kernel)
theorem pw_w1076 : Cond.code yX6_laysTold prog_8_method_36_code 1 (Option.none : Option Jvm.ClassFile.FieldType) ∈ pw_wl := pw_in 1076 (by decide +kernel) (by decide +kernel)
theorem pw_w1077 : Cond.methodLink "TwinKingsModel" 188 yX6_asTold ∈ pw_wl := pw_in 1077 (by decide +kernel) (by decide +kernel)
theorem pw_w1079 : Cond.instanceMethod yX6_asTold ∈ pw_wl := pw_in 1079 (by decide +kernel) (by decide +kernel)
theorem pw_w1080 : Cond.code yX6_asTold prog_8_method_34_code 1 (Option.none : Option Jvm.ClassFile.FieldType) ∈ pw_wl := pw_in 1080 (by decide +kernel) (by decide +kernel)
theorem pw_w1081 : Cond.methodLink "TwinKingsModel" 191 yX6_lays ∈ pw_wl := pw_in 1081 (by decide +kernel) (by decide +kernel)
theorem pw_w1083 : Cond.instanceMethod yX6_lays ∈ pw_wl := pw_in 1083 (by decide +kernel) (by decide +kernel)
theorem pw_w1084 : Cond.code yX6_lays prog_8_method_35_code 8 (Option.none : Option Jvm.ClassFile.FieldType) ∈ pw_wl := pw_in 1084 (by decide +kernel) (by decide +kernel)
theorem pw_w1085 : Cond.methodLink "TwinKingsModel" 182 yX6_allDeeds ∈ pw_wl := pw_in 1085 (by decide +kernel) (by decide +kernel)
theorem pw_w1087 : Cond.instanceMethod yX6_allDeeds ∈ pw_wl := pw_in 1087 (by decide +kernel) (by decide +kernel)
theorem pw_w1088 : Cond.code yX6_allDeeds prog_8_method_18_code 1 (Option.some Jvm.ClassFile.FieldType.int) ∈ pw_wl := pw_in 1088 (by decide +kernel) (by decide +kernel)
theorem pw_w1093 : Cond.methodLink "TwinKingsModel" 200 yX6_allowedOf ∈ pw_wl := pw_in 1093 (by decide +kernel) (by decide +kernel)
theorem pw_w1095 : Cond.instanceMethod yX6_allowedOf ∈ pw_wl := pw_in 1095 (by decide +kernel) (by decide +kernel)
theorem pw_w1096 : Cond.code yX6_allowedOf prog_8_method_39_code 2 (Option.some Jvm.ClassFile.FieldType.int) ∈ pw_wl := pw_in 1096 (by decide +kernel) (by decide +kernel)
theorem pw_w1101 : Cond.methodLink "TwinKingsModel" 203 yX6_neverNow ∈ pw_wl := pw_in 1101 (by decide +kernel) (by decide +kernel)
theorem pw_w1103 : Cond.instanceMethod yX6_neverNow ∈ pw_wl := pw_in 1103 (by decide +kernel) (by decide +kernel)
theorem pw_w1104 : Cond.code yX6_neverNow prog_8_method_41_code 3 (Option.some Jvm.ClassFile.FieldType.int) ∈ pw_wl := pw_in 1104 (by decide +kernel) (by decide +kernel)
theorem pw_w1109 : Cond.methodLink "TwinKingsModel" 206 yX6_alikeNow ∈ pw_wl := pw_in 1109 (by decide +kernel) (by decide +kernel)
theorem pw_w1111 : Cond.instanceMethod yX6_alikeNow ∈ pw_wl := pw_in 1111 (by decide +kernel) (by decide +kernel)
theorem pw_w1112 : Cond.code yX6_alikeNow prog_8_method_43_code 2 (Option.some Jvm.ClassFile.FieldType.int) ∈ pw_wl := pw_in 1112 (by decide +kernel) (by decide +kernel)
theorem pw_w1117 : Cond.methodLink "TwinKingsModel" 209 yX6_crossingOf ∈ pw_wl := pw_in 1117 (by decide +kernel) (by decide +kernel)
theorem pw_w1119 : Cond.instanceMethod yX6_crossingOf ∈ pw_wl := pw_in 1119 (by decide +kernel) (by decide +kernel)
theorem pw_w1120 : Cond.code yX6_crossingOf prog_8_method_45_code 4 (Option.some Jvm.ClassFile.FieldType.int) ∈ pw_wl := pw_in 1120 (by decide +kernel) (by decide +kernel)
theorem pw_w1125 : Cond.methodLink "TwinKingsModel" 215 yX6_finedOf ∈ pw_wl := pw_in 1125 (by decide +kernel) (by decide +kernel)
theorem pw_w1127 : Cond.instanceMethod yX6_finedOf ∈ pw_wl := pw_in 1127 (by decide +kernel) (by decide +kernel)
theorem pw_w1128 : Cond.code yX6_finedOf prog_8_method_48_code 4 (Option.some Jvm.ClassFile.FieldType.int) ∈ pw_wl := pw_in 1128 (by decide +kernel) (by decide +kernel)
theorem pw_w1129 : Cond.methodLink "TwinKingsModel" 212 yX6_finedOn ∈ pw_wl := pw_in 1129 (by decide +kernel) (by decide +kernel)
theorem pw_w1131 : Cond.instanceMethod yX6_finedOn ∈ pw_wl := pw_in 1131 (by decide +kernel) (by decide +kernel)
theorem pw_w1132 : Cond.code yX6_finedOn prog_8_method_47_code 6 (Option.some Jvm.ClassFile.FieldType.int) ∈ pw_wl := pw_in 1132 (by decide +kernel) (by decide +kernel)
theorem pw_w1137 : Cond.methodLink "TwinKingsModel" 218 yX6_coinsOf ∈ pw_wl := pw_in 1137 (by decide +kernel) (by decide +kernel)
theorem pw_w1139 : Cond.instanceMethod yX6_coinsOf ∈ pw_wl := pw_in 1139 (by decide +kernel) (by decide +kernel)
theorem pw_w1140 : Cond.code yX6_coinsOf prog_8_method_50_code 6 (Option.some Jvm.ClassFile.FieldType.int) ∈ pw_wl := pw_in 1140 (by decide +kernel) (by decide +kernel)
theorem pw_w1145 : Cond.methodLink "TwinKingsModel" 225 yX6_soonestOf ∈ pw_wl := pw_in 1145 (by decide +kernel) (by decide +kernel)
theorem pw_w1147 : Cond.instanceMethod yX6_soonestOf ∈ pw_wl := pw_in 1147 (by decide +kernel) (by decide +kernel)
theorem pw_w1148 : Cond.code yX6_soonestOf prog_8_method_53_code 4 (Option.some Jvm.ClassFile.FieldType.int) ∈ pw_wl := pw_in 1148 (by decide +kernel) (by decide +kernel)
theorem pw_w1149 : Cond.methodLink "TwinKingsModel" 221 yX6_firstFor ∈ pw_wl := pw_in 1149 (by decide +kernel) (by decide +kernel)
theorem pw_w1151 : Cond.instanceMethod yX6_firstFor ∈ pw_wl := pw_in 1151 (by decide +kernel) (by decide +kernel)
theorem pw_w1152 : Cond.code yX6_firstFor prog_8_method_52_code 7 (Option.some Jvm.ClassFile.FieldType.int) ∈ pw_wl := pw_in 1152 (by decide +kernel) (by decide +kernel)
theorem pw_w1157 : Cond.methodLink "TwinKingsModel" 228 yX6_cheapestOf ∈ pw_wl := pw_in 1157 (by decide +kernel) (by decide +kernel)
theorem pw_w1159 : Cond.instanceMethod yX6_cheapestOf ∈ pw_wl := pw_in 1159 (by decide +kernel) (by decide +kernel)
theorem pw_w1160 : Cond.code yX6_cheapestOf prog_8_method_55_code 10 (Option.some Jvm.ClassFile.FieldType.int) ∈ pw_wl := pw_in 1160 (by decide +kernel) (by decide +kernel)
theorem pw_w1165 : Cond.methodLink "TwinKingsModel" 235 yX6_finishOf ∈ pw_wl := pw_in 1165 (by decide +kernel) (by decide +kernel)
theorem pw_w1167 : Cond.instanceMethod yX6_finishOf ∈ pw_wl := pw_in 1167 (by decide +kernel) (by decide +kernel)
theorem pw_w1168 : Cond.code yX6_finishOf prog_8_method_58_code 4 (Option.some Jvm.ClassFile.FieldType.int) ∈ pw_wl := pw_in 1168 (by decide +kernel) (by decide +kernel)
theorem pw_w1169 : Cond.methodLink "TwinKingsModel" 232 yX6_finishBy ∈ pw_wl := pw_in 1169 (by decide +kernel) (by decide +kernel)
theorem pw_w1171 : Cond.instanceMethod yX6_finishBy ∈ pw_wl := pw_in 1171 (by decide +kernel) (by decide +kernel)
theorem pw_w1172 : Cond.code yX6_finishBy prog_8_method_57_code 5 (Option.some Jvm.ClassFile.FieldType.int) ∈ pw_wl := pw_in 1172 (by decide +kernel) (by decide +kernel)
theorem pw_w1177 : Cond.methodLink "TwinKingsModel" 241 yX6_planOf ∈ pw_wl := pw_in 1177 (by decide +kernel) (by decide +kernel)
theorem pw_w1179 : Cond.instanceMethod yX6_planOf ∈ pw_wl := pw_in 1179 (by decide +kernel) (by decide +kernel)
theorem pw_w1180 : Cond.code yX6_planOf prog_8_method_61_code 4 (Option.some Jvm.ClassFile.FieldType.int) ∈ pw_wl := pw_in 1180 (by decide +kernel) (by decide +kernel)
theorem pw_w1181 : Cond.methodLink "TwinKingsModel" 238 yX6_planBy ∈ pw_wl := pw_in 1181 (by decide +kernel) (by decide +kernel)
theorem pw_w1183 : Cond.instanceMethod yX6_planBy ∈ pw_wl := pw_in 1183 (by decide +kernel) (by decide +kernel)
theorem pw_w1184 : Cond.code yX6_planBy prog_8_method_60_code 10 (Option.some Jvm.ClassFile.FieldType.int) ∈ pw_wl := pw_in 1184 (by decide +kernel) (by decide +kernel)
theorem pw_w1189 : Cond.methodLink "TwinKingsModel" 257 yX6_wordsOf ∈ pw_wl := pw_in 1189 (by decide +kernel) (by decide +kernel)
theorem pw_w1191 : Cond.instanceMethod yX6_wordsOf ∈ pw_wl := pw_in 1191 (by decide +kernel) (by decide +kernel)
theorem pw_w1192 : Cond.code yX6_wordsOf prog_8_method_66_code 8 (Option.some Jvm.ClassFile.FieldType.int) ∈ pw_wl := pw_in 1192 (by decide +kernel) (by decide +kernel)
theorem pw_w1193 : Cond.methodLink "TwinKingsModel" 250 yX6_laysOuts ∈ pw_wl := pw_in 1193 (by decide +kernel) (by decide +kernel)
theorem pw_w1195 : Cond.instanceMethod yX6_laysOuts ∈ pw_wl := pw_in 1195 (by decide +kernel) (by decide +kernel)
theorem pw_w1196 : Cond.code yX6_laysOuts prog_8_method_64_code 8 (Option.none : Option Jvm.ClassFile.FieldType) ∈ pw_wl := pw_in 1196 (by decide +kernel) (by decide +kernel)
theorem pw_w1197 : Cond.methodLink "TwinKingsModel" 244 yX6_isWord ∈ pw_wl := pw_in 1197 (by decide +kernel) (by decide +kernel)
theorem pw_w1199 : Cond.instanceMethod yX6_isWord ∈ pw_wl := pw_in 1199 (by decide +kernel) (by decide +kernel)
theorem pw_w1200 : Cond.code yX6_isWord prog_8_method_63_code 4 (Option.some Jvm.ClassFile.FieldType.boolean) ∈ pw_wl := pw_in 1200 (by decide +kernel) (by decide +kernel)
theorem pw_w1201 : Cond.methodLink "TwinKingsModel" 247 yX6_ones ∈ pw_wl := pw_in 1201 (by decide +kernel) (by decide +kernel)
theorem pw_w1202 : Cond.static yX6_ones ∈ pw_wl := pw_in 1202 (by decide +kernel) (by decide +kernel)
theorem pw_w1203 : Cond.code yX6_ones prog_8_method_5_code 3 (Option.some Jvm.ClassFile.FieldType.int) ∈ pw_wl := pw_in 1203 (by decide +kernel) (by decide +kernel)
theorem pw_w1204 : Cond.methodLink "TwinKingsModel" 254 yX6_bestOut ∈ pw_wl := pw_in 1204 (by decide +kernel) (by decide +kernel)
theorem pw_w1206 : Cond.instanceMethod yX6_bestOut ∈ pw_wl := pw_in 1206 (by decide +kernel) (by decide +kernel)
theorem pw_w1207 : Cond.code yX6_bestOut prog_8_method_65_code 7 (Option.some Jvm.ClassFile.FieldType.int) ∈ pw_wl := pw_in 1207 (by decide +kernel) (by decide +kernel)
theorem pw_w1224 : Cond.methodLink "TwinKingsModel" 272 yX6_whenOf ∈ pw_wl := pw_in 1224 (by decide +kernel) (by decide +kernel)
theorem pw_w1226 : Cond.instanceMethod yX6_whenOf ∈ pw_wl := pw_in 1226 (by decide +kernel) (by decide +kernel)
theorem pw_w1227 : Cond.code yX6_whenOf prog_8_method_73_code 6 (Option.some Jvm.ClassFile.FieldType.int) ∈ pw_wl := pw_in 1227 (by decide +kernel) (by decide +kernel)
theorem pw_w1228 : Cond.methodLink "TwinKingsModel" 269 yX6_isWhen ∈ pw_wl := pw_in 1228 (by decide +kernel) (by decide +kernel)
theorem pw_w1230 : Cond.instanceMethod yX6_isWhen ∈ pw_wl := pw_in 1230 (by decide +kernel) (by decide +kernel)
theorem pw_w1231 : Cond.code yX6_isWhen prog_8_method_72_code 4 (Option.some Jvm.ClassFile.FieldType.boolean) ∈ pw_wl := pw_in 1231 (by decide +kernel) (by decide +kernel)
theorem pw_w1232 : Cond.methodLink "TwinKingsModel" 266 yX6_isSo ∈ pw_wl := pw_in 1232 (by decide +kernel) (by decide +kernel)
theorem pw_w1234 : Cond.instanceMethod yX6_isSo ∈ pw_wl := pw_in 1234 (by decide +kernel) (by decide +kernel)
theorem pw_w1235 : Cond.code yX6_isSo prog_8_method_71_code 4 (Option.some Jvm.ClassFile.FieldType.boolean) ∈ pw_wl := pw_in 1235 (by decide +kernel) (by decide +kernel)
theorem pw_w1240 : Cond.methodLink "TwinKingsModel" 275 yX6_askNow ∈ pw_wl := pw_in 1240 (by decide +kernel) (by decide +kernel)
theorem pw_w1242 : Cond.instanceMethod yX6_askNow ∈ pw_wl := pw_in 1242 (by decide +kernel) (by decide +kernel)
theorem pw_w1243 : Cond.code yX6_askNow prog_8_method_75_code 8 (Option.some Jvm.ClassFile.FieldType.int) ∈ pw_wl := pw_in 1243 (by decide +kernel) (by decide +kernel)
theorem pw_w1248 : Cond.methodLink "TwinKingsModel" 278 yX6_forgedNow ∈ pw_wl := pw_in 1248 (by decide +kernel) (by decide +kernel)
theorem pw_w1250 : Cond.instanceMethod yX6_forgedNow ∈ pw_wl := pw_in 1250 (by decide +kernel) (by decide +kernel)
theorem pw_w1251 : Cond.code yX6_forgedNow prog_8_method_77_code 5 (Option.some Jvm.ClassFile.FieldType.int) ∈ pw_wl := pw_in 1251 (by decide +kernel) (by decide +kernel)
theorem pw_w1256 : Cond.methodLink "TwinKingsModel" 290 yX6_chanceOf ∈ pw_wl := pw_in 1256 (by decide +kernel) (by decide +kernel)
theorem pw_w1258 : Cond.instanceMethod yX6_chanceOf ∈ pw_wl := pw_in 1258 (by decide +kernel) (by decide +kernel)
theorem pw_w1259 : Cond.code yX6_chanceOf prog_8_method_80_code 11 (Option.some Jvm.ClassFile.FieldType.long) ∈ pw_wl := pw_in 1259 (by decide +kernel) (by decide +kernel)
theorem pw_w1260 : Cond.methodLink "TwinKingsModel" 281 yX6_chanceOn ∈ pw_wl := pw_in 1260 (by decide +kernel) (by decide +kernel)
theorem pw_w1262 : Cond.instanceMethod yX6_chanceOn ∈ pw_wl := pw_in 1262 (by decide +kernel) (by decide +kernel)
theorem pw_w1263 : Cond.code yX6_chanceOn prog_8_method_79_code 8 (Option.some Jvm.ClassFile.FieldType.int) ∈ pw_wl := pw_in 1263 (by decide +kernel) (by decide +kernel)
theorem pw_w1264 : Cond.constantLong "TwinKingsModel" 284 (256 : Int64) ∈ pw_wl := pw_in 1264 (by decide +kernel) (by decide +kernel)
theorem pw_w1265 : Cond.methodLink "TwinKingsModel" 286 yX6_lowest ∈ pw_wl := pw_in 1265 (by decide +kernel) (by decide +kernel)
theorem pw_w1266 : Cond.static yX6_lowest ∈ pw_wl := pw_in 1266 (by decide +kernel) (by decide +kernel)
theorem pw_w1267 : Cond.code yX6_lowest prog_8_method_7_code 11 (Option.some Jvm.ClassFile.FieldType.long) ∈ pw_wl := pw_in 1267 (by decide +kernel) (by decide +kernel)
theorem pw_w1268 : Cond.methodLink "TwinKingsModel" 294 yX6_no ∈ pw_wl := pw_in 1268 (by decide +kernel) (by decide +kernel)
theorem pw_w1269 : Cond.static yX6_no ∈ pw_wl := pw_in 1269 (by decide +kernel) (by decide +kernel)
theorem pw_w1270 : Cond.code yX6_no prog_8_method_6_code 1 (Option.some Jvm.ClassFile.FieldType.long) ∈ pw_wl := pw_in 1270 (by decide +kernel) (by decide +kernel)
theorem pw_w1271 : Cond.constantLong "TwinKingsModel" 104 (-9223372036854775808 : Int64) ∈ pw_wl := pw_in 1271 (by decide +kernel) (by decide +kernel)
theorem pw_w1276 : Cond.methodLink "TwinKingsModel" 299 yX6_yearOf ∈ pw_wl := pw_in 1276 (by decide +kernel) (by decide +kernel)
theorem pw_w1278 : Cond.instanceMethod yX6_yearOf ∈ pw_wl := pw_in 1278 (by decide +kernel) (by decide +kernel)
theorem pw_w1279 : Cond.code yX6_yearOf prog_8_method_82_code 10 (Option.some Jvm.ClassFile.FieldType.int) ∈ pw_wl := pw_in 1279 (by decide +kernel) (by decide +kernel)
theorem pw_w1280 : Cond.constant "TwinKingsModel" 298 (1103515245 : Int32) ∈ pw_wl := pw_in 1280 (by decide +kernel) (by decide +kernel)
theorem pw_w1293 : Cond.methodLink "TwinKingsModel" 305 yX6_lacks ∈ pw_wl := pw_in 1293 (by decide +kernel) (by decide +kernel)
theorem pw_w1295 : Cond.instanceMethod yX6_lacks ∈ pw_wl := pw_in 1295 (by decide +kernel) (by decide +kernel)
theorem pw_w1296 : Cond.code yX6_lacks prog_8_method_88_code 4 (Option.some Jvm.ClassFile.FieldType.int) ∈ pw_wl := pw_in 1296 (by decide +kernel) (by decide +kernel)
theorem pw_w1297 : Cond.methodLink "TwinKingsModel" 308 yX6_keep ∈ pw_wl := pw_in 1297 (by decide +kernel) (by decide +kernel)
theorem pw_w1299 : Cond.instanceMethod yX6_keep ∈ pw_wl := pw_in 1299 (by decide +kernel) (by decide +kernel)
theorem pw_w1300 : Cond.code yX6_keep prog_8_method_89_code 4 (Option.none : Option Jvm.ClassFile.FieldType) ∈ pw_wl := pw_in 1300 (by decide +kernel) (by decide +kernel)
theorem pw_w1305 : Cond.constant "TwinKingsModel" 311 (-2147483648 : Int32) ∈ pw_wl := pw_in 1305 (by decide +kernel) (by decide +kernel)
theorem pw_w1315 : Cond.instanceMethod yX6_count ∈ pw_wl := pw_in 1315 (by decide +kernel) (by decide +kernel)
theorem pw_w1316 : Cond.selects "TwinKingsModel" yX6_count yX6_count ∈ pw_wl := pw_in 1316 (by decide +kernel) (by decide +kernel)
theorem pw_w1317 : Cond.code yX6_count prog_8_method_94_code 2 (Option.some Jvm.ClassFile.FieldType.int) ∈ pw_wl := pw_in 1317 (by decide +kernel) (by decide +kernel)
theorem pw_w1322 : Cond.constantLong "TwinKingsModel" 314 (17 : Int64) ∈ pw_wl := pw_in 1322 (by decide +kernel) (by decide +kernel)
theorem pw_w1323 : Cond.constantLong "TwinKingsModel" 312 (31 : Int64) ∈ pw_wl := pw_in 1323 (by decide +kernel) (by decide +kernel)
theorem pw_w1324 : Cond.methodLink "TwinKingsModel" 316 yX6_count ∈ pw_wl := pw_in 1324 (by decide +kernel) (by decide +kernel)
theorem pw_w1325 : Cond.methodLink "TwinKingsModel" 319 yX6_deedDigest ∈ pw_wl := pw_in 1325 (by decide +kernel) (by decide +kernel)
theorem pw_w1327 : Cond.instanceMethod yX6_deedDigest ∈ pw_wl := pw_in 1327 (by decide +kernel) (by decide +kernel)
theorem pw_w1328 : Cond.code yX6_deedDigest prog_8_method_95_code 7 (Option.some Jvm.ClassFile.FieldType.long) ∈ pw_wl := pw_in 1328 (by decide +kernel) (by decide +kernel)
theorem pw_w1329 : Cond.methodLink "TwinKingsModel" 323 yX6_dayDigest ∈ pw_wl := pw_in 1329 (by decide +kernel) (by decide +kernel)
theorem pw_w1331 : Cond.instanceMethod yX6_dayDigest ∈ pw_wl := pw_in 1331 (by decide +kernel) (by decide +kernel)
theorem pw_w1332 : Cond.code yX6_dayDigest prog_8_method_96_code 6 (Option.some Jvm.ClassFile.FieldType.long) ∈ pw_wl := pw_in 1332 (by decide +kernel) (by decide +kernel)
theorem fl_X0_22 : r_FL RX0 22 0 2 := ⟨RX0, TX0, 6, rfl, by decide, pw_w93, pw_uX0⟩
theorem fp_X0_22 : r_FP RX0 22 0 2 .int := ⟨RX0, TX0, 6, tyX0, rfl, by decide, pw_w93, pw_uX0, tyX0_ok, nmX0, rfl, by decide +kernel⟩
theorem fl_X0_25 : r_FL RX0 25 0 4 := ⟨RX0, TX0, 6, rfl, by decide, pw_w95, pw_uX0⟩
theorem fp_X0_25 : r_FP RX0 25 0 4 .int := ⟨RX0, TX0, 6, tyX0, rfl, by decide, pw_w95, pw_uX0, tyX0_ok, nmX0, rfl, by decide +kernel⟩
theorem fl_X0_18 : r_FL RX0 18 0 3 := ⟨RX0, TX0, 6, rfl, by decide, pw_w94, pw_uX0⟩
theorem fp_X0_18 : r_FP RX0 18 0 3 .int := ⟨RX0, TX0, 6, tyX0, rfl, by decide, pw_w94, pw_uX0, tyX0_ok, nmX0, rfl, by decide +kernel⟩
theorem cm_X5_within : r_CM mX5_within 3 := ⟨pw_w262, pw_w66, by decide +kernel, ⟨by decide +kernel, by decide +kernel⟩, by decide +kernel, by decide⟩
theorem ml_X0_28 : r_CN RX0 28 mX5_within 3 := ⟨cm_X5_within, ⟨_, pw_w279⟩, pw_w261⟩
theorem cm_X0_has : r_CM mX0_has 1 := ⟨pw_w315, pw_w67, by decide +kernel, ⟨by decide +kernel, by decide +kernel⟩, by decide +kernel, by decide⟩
theorem ml_X0_32 : r_CV RX0 32 mX0_has 1 := ⟨cm_X0_has, pw_w320, pw_w313, pw_w314⟩
theorem fl_X0_15 : r_FL RX0 15 0 1 := ⟨RX0, TX0, 6, rfl, by decide, pw_w92, pw_uX0⟩
theorem fl_X0_36 : r_FL RX0 36 0 5 := ⟨RX0, TX0, 6, rfl, by decide, pw_w96, pw_uX0⟩
theorem fp_X0_36 : r_FP RX0 36 0 5 .int := ⟨RX0, TX0, 6, tyX0, rfl, by decide, pw_w96, pw_uX0, tyX0_ok, nmX0, rfl, by decide +kernel⟩
theorem cm_X0_youngerSays : r_CM mX0_youngerSays 2 := ⟨pw_w335, pw_w67, by decide +kernel, ⟨by decide +kernel, by decide +kernel⟩, by decide +kernel, by decide⟩
theorem ml_X0_39 : r_CV RX0 39 mX0_youngerSays 2 := ⟨cm_X0_youngerSays, pw_w332, pw_w334, pw_w4⟩
theorem fl_X0_11 : r_FL RX0 11 0 0 := ⟨RX0, TX0, 6, rfl, by decide, pw_w91, pw_uX0⟩
theorem cm_X0_parse : r_CM mX0_parse 0 := ⟨pw_w270, pw_w67, by decide +kernel, ⟨by decide +kernel, by decide +kernel⟩, by decide +kernel, by decide⟩
theorem ml_X0_43 : r_CV RX0 43 mX0_parse 0 := ⟨cm_X0_parse, pw_w267, pw_w269, pw_w0⟩
theorem cm_X5_bit : r_CM mX5_bit 2 := ⟨pw_w327, pw_w66, by decide +kernel, ⟨by decide +kernel, by decide +kernel⟩, by decide +kernel, by decide⟩
theorem ml_X0_46 : r_CN RX0 46 mX5_bit 2 := ⟨cm_X5_bit, ⟨_, pw_w336⟩, pw_w326⟩
theorem cm_X0_findFault : r_CM mX0_findFault 0 := ⟨pw_w274, pw_w67, by decide +kernel, ⟨by decide +kernel, by decide +kernel⟩, by decide +kernel, by decide⟩
theorem ml_X0_49 : r_CV RX0 49 mX0_findFault 0 := ⟨cm_X0_findFault, pw_w271, pw_w273, pw_w1⟩
theorem cm_X0_fits : r_CM mX0_fits 1 := ⟨pw_w278, pw_w67, by decide +kernel, ⟨by decide +kernel, by decide +kernel⟩, by decide +kernel, by decide⟩
theorem ml_X0_53 : r_CV RX0 53 mX0_fits 1 := ⟨cm_X0_fits, pw_w275, pw_w277, pw_w2⟩
theorem fl_X1_9 : r_FL RX1 9 1 0 := ⟨RX1, TX1, 6, rfl, by decide, pw_w142, pw_uX1⟩
theorem cm_X1_rulerBy : r_CM mX1_rulerBy 3 := ⟨pw_w425, pw_w70, by decide +kernel, ⟨by decide +kernel, by decide +kernel⟩, by decide +kernel, by decide⟩
theorem ml_X1_27 : r_CS RX1 27 mX1_rulerBy 3 := ⟨cm_X1_rulerBy, pw_w423, pw_w424⟩
theorem cm_X0_number : r_CM mX0_number 0 := ⟨pw_w443, pw_w67, by decide +kernel, ⟨by decide +kernel, by decide +kernel⟩, by decide +kernel, by decide⟩
theorem ml_X1_31 : r_CV RX1 31 mX0_number 0 := ⟨cm_X0_number, pw_w440, pw_w441, pw_w442⟩
theorem fl_X1_37 : r_FL RX1 37 1 5 := ⟨RX1, TX1, 6, rfl, by decide, pw_w147, pw_uX1⟩
theorem fp_X1_37 : r_FP RX1 37 1 5 .int := ⟨RX1, TX1, 6, tyX1, rfl, by decide, pw_w147, pw_uX1, tyX1_ok, nmX1, rfl, by decide +kernel⟩
theorem cm_X1_gatherTurned : r_CM mX1_gatherTurned 2 := ⟨pw_w447, pw_w70, by decide +kernel, ⟨by decide +kernel, by decide +kernel⟩, by decide +kernel, by decide⟩
theorem ml_X1_40 : r_CV RX1 40 mX1_gatherTurned 2 := ⟨cm_X1_gatherTurned, pw_w444, pw_w446, pw_w8⟩
theorem cm_X0_elderBits : r_CM mX0_elderBits 0 := ⟨pw_w324, pw_w67, by decide +kernel, ⟨by decide +kernel, by decide +kernel⟩, by decide +kernel, by decide⟩
theorem ml_X1_44 : r_CV RX1 44 mX0_elderBits 0 := ⟨cm_X0_elderBits, pw_w463, pw_w322, pw_w323⟩
theorem cm_X0_youngerBits : r_CM mX0_youngerBits 1 := ⟨pw_w331, pw_w67, by decide +kernel, ⟨by decide +kernel, by decide +kernel⟩, by decide +kernel, by decide⟩
theorem ml_X1_47 : r_CV RX1 47 mX0_youngerBits 1 := ⟨cm_X0_youngerBits, pw_w464, pw_w329, pw_w330⟩
theorem fl_X1_15 : r_FL RX1 15 1 1 := ⟨RX1, TX1, 6, rfl, by decide, pw_w143, pw_uX1⟩
theorem fl_X1_18 : r_FL RX1 18 1 2 := ⟨RX1, TX1, 6, rfl, by decide, pw_w144, pw_uX1⟩
theorem fl_X1_21 : r_FL RX1 21 1 3 := ⟨RX1, TX1, 6, rfl, by decide, pw_w145, pw_uX1⟩
theorem cm_X1_openBy : r_CM mX1_openBy 3 := ⟨pw_w468, pw_w70, by decide +kernel, ⟨by decide +kernel, by decide +kernel⟩, by decide +kernel, by decide⟩
theorem ml_X1_51 : r_CV RX1 51 mX1_openBy 3 := ⟨cm_X1_openBy, pw_w465, pw_w467, pw_w9⟩
theorem fl_X1_24 : r_FL RX1 24 1 4 := ⟨RX1, TX1, 6, rfl, by decide, pw_w146, pw_uX1⟩
theorem cm_X5_isDay : r_CM mX5_isDay 1 := ⟨pw_w350, pw_w66, by decide +kernel, ⟨by decide +kernel, by decide +kernel⟩, by decide +kernel, by decide⟩
theorem ml_X1_55 : r_CN RX1 55 mX5_isDay 1 := ⟨cm_X5_isDay, ⟨_, pw_w461⟩, pw_w349⟩
theorem cm_X1_rulerOn : r_CM mX1_rulerOn 1 := ⟨pw_w476, pw_w70, by decide +kernel, ⟨by decide +kernel, by decide +kernel⟩, by decide +kernel, by decide⟩
theorem ml_X1_59 : r_CV RX1 59 mX1_rulerOn 1 := ⟨cm_X1_rulerOn, pw_w534, pw_w474, pw_w475⟩
theorem ml_X1_62 : r_CN RX1 62 mX5_within 3 := ⟨cm_X5_within, ⟨_, pw_w462⟩, pw_w261⟩
theorem ml_X1_66 : r_CN RX1 66 mX5_bit 2 := ⟨cm_X5_bit, ⟨_, pw_w514⟩, pw_w326⟩
theorem cm_X1_openDays : r_CM mX1_openDays 1 := ⟨pw_w513, pw_w70, by decide +kernel, ⟨by decide +kernel, by decide +kernel⟩, by decide +kernel, by decide⟩
theorem ml_X1_70 : r_CV RX1 70 mX1_openDays 1 := ⟨cm_X1_openDays, pw_w510, pw_w511, pw_w512⟩
theorem cm_X1_openOn : r_CM mX1_openOn 1 := ⟨pw_w492, pw_w70, by decide +kernel, ⟨by decide +kernel, by decide +kernel⟩, by decide +kernel, by decide⟩
theorem ml_X1_74 : r_CV RX1 74 mX1_openOn 1 := ⟨cm_X1_openOn, pw_w688, pw_w490, pw_w491⟩
theorem cm_X1_isSunday : r_CM mX1_isSunday 1 := ⟨pw_w432, pw_w70, by decide +kernel, ⟨by decide +kernel, by decide +kernel⟩, by decide +kernel, by decide⟩
theorem ml_X1_77 : r_CS RX1 77 mX1_isSunday 1 := ⟨cm_X1_isSunday, pw_w430, pw_w431⟩
theorem cm_X1_kingInTurn : r_CM mX1_kingInTurn 1 := ⟨pw_w435, pw_w70, by decide +kernel, ⟨by decide +kernel, by decide +kernel⟩, by decide +kernel, by decide⟩
theorem ml_X1_80 : r_CS RX1 80 mX1_kingInTurn 1 := ⟨cm_X1_kingInTurn, pw_w433, pw_w434⟩
theorem cm_X1_saidOn : r_CM mX1_saidOn 2 := ⟨pw_w484, pw_w70, by decide +kernel, ⟨by decide +kernel, by decide +kernel⟩, by decide +kernel, by decide⟩
theorem ml_X1_83 : r_CV RX1 83 mX1_saidOn 2 := ⟨cm_X1_saidOn, pw_w615, pw_w482, pw_w483⟩
theorem cm_X1_playOn : r_CM mX1_playOn 4 := ⟨pw_w614, pw_w70, by decide +kernel, ⟨by decide +kernel, by decide +kernel⟩, by decide +kernel, by decide⟩
theorem ml_X1_86 : r_CV RX1 86 mX1_playOn 4 := ⟨cm_X1_playOn, pw_w611, pw_w613, pw_w13⟩
theorem cm_X5_isKing : r_CM mX5_isKing 1 := ⟨pw_w347, pw_w66, by decide +kernel, ⟨by decide +kernel, by decide +kernel⟩, by decide +kernel, by decide⟩
theorem ml_X1_90 : r_CN RX1 90 mX5_isKing 1 := ⟨cm_X5_isKing, ⟨_, pw_w622⟩, pw_w346⟩
theorem cm_X1_numberAtBest : r_CM mX1_numberAtBest 2 := ⟨pw_w610, pw_w70, by decide +kernel, ⟨by decide +kernel, by decide +kernel⟩, by decide +kernel, by decide⟩
theorem ml_X1_93 : r_CV RX1 93 mX1_numberAtBest 2 := ⟨cm_X1_numberAtBest, pw_w629, pw_w608, pw_w609⟩
theorem cm_J6_bitCount_0f7a4 : r_CM mJ6_bitCount_0f7a4 1 := ⟨pw_w618, pw_w74, by decide +kernel, ⟨by decide +kernel, by decide +kernel⟩, by decide +kernel, by decide⟩
theorem ml_X1_96 : r_CS RX1 96 mJ6_bitCount_0f7a4 1 := ⟨cm_J6_bitCount_0f7a4, pw_w616, pw_w617⟩
theorem cm_J9_max_7cf53 : r_CM mJ9_max_7cf53 2 := ⟨pw_w119, pw_w69, by decide +kernel, ⟨by decide +kernel, by decide +kernel⟩, by decide +kernel, by decide⟩
theorem ml_X1_101 : r_CS RX1 101 mJ9_max_7cf53 2 := ⟨cm_J9_max_7cf53, pw_w623, pw_w118⟩
theorem cm_J9_min_7cf53 : r_CM mJ9_min_7cf53 2 := ⟨pw_w568, pw_w69, by decide +kernel, ⟨by decide +kernel, by decide +kernel⟩, by decide +kernel, by decide⟩
theorem ml_X1_106 : r_CS RX1 106 mJ9_min_7cf53 2 := ⟨cm_J9_min_7cf53, pw_w624, pw_w567⟩
theorem cm_X3_holds : r_CM mX3_holds 2 := ⟨pw_w429, pw_w68, by decide +kernel, ⟨by decide +kernel, by decide +kernel⟩, by decide +kernel, by decide⟩
theorem ml_X1_109 : r_CV RX1 109 mX3_holds 2 := ⟨cm_X3_holds, pw_w426, pw_w427, pw_w428⟩
theorem cm_X3_size : r_CM mX3_size 0 := ⟨pw_w451, pw_w68, by decide +kernel, ⟨by decide +kernel, by decide +kernel⟩, by decide +kernel, by decide⟩
theorem ml_X1_115 : r_CV RX1 115 mX3_size 0 := ⟨cm_X3_size, pw_w448, pw_w449, pw_w450⟩
theorem cm_X3_first : r_CM mX3_first 1 := ⟨pw_w455, pw_w68, by decide +kernel, ⟨by decide +kernel, by decide +kernel⟩, by decide +kernel, by decide⟩
theorem ml_X1_118 : r_CV RX1 118 mX3_first 1 := ⟨cm_X3_first, pw_w452, pw_w453, pw_w454⟩
theorem cm_X3_second : r_CM mX3_second 1 := ⟨pw_w460, pw_w68, by decide +kernel, ⟨by decide +kernel, by decide +kernel⟩, by decide +kernel, by decide⟩
theorem ml_X1_121 : r_CV RX1 121 mX3_second 1 := ⟨cm_X3_second, pw_w457, pw_w458, pw_w459⟩
theorem cm_X1_everyDeed : r_CM mX1_everyDeed 0 := ⟨pw_w472, pw_w70, by decide +kernel, ⟨by decide +kernel, by decide +kernel⟩, by decide +kernel, by decide⟩
theorem ml_X1_124 : r_CV RX1 124 mX1_everyDeed 0 := ⟨cm_X1_everyDeed, pw_w469, pw_w470, pw_w471⟩
theorem ml_X2_28 : r_CV RX2 28 mX3_size 0 := ⟨cm_X3_size, pw_w565, pw_w449, pw_w450⟩
theorem ml_X2_34 : r_CS RX2 34 mJ9_min_7cf53 2 := ⟨cm_J9_min_7cf53, pw_w566, pw_w567⟩
theorem fl_X2_40 : r_FL RX2 40 2 5 := ⟨RX2, TX2, 7, rfl, by decide, pw_w172, pw_uX2⟩
theorem fp_X2_40 : r_FP RX2 40 2 5 .int := ⟨RX2, TX2, 7, tyX2, rfl, by decide, pw_w172, pw_uX2, tyX2_ok, nmX2, rfl, by decide +kernel⟩
theorem fl_X2_15 : r_FL RX2 15 2 1 := ⟨RX2, TX2, 7, rfl, by decide, pw_w168, pw_uX2⟩
theorem ml_X2_44 : r_CV RX2 44 mX3_second 1 := ⟨cm_X3_second, pw_w569, pw_w458, pw_w459⟩
theorem fl_X2_9 : r_FL RX2 9 2 0 := ⟨RX2, TX2, 7, rfl, by decide, pw_w167, pw_uX2⟩
theorem ml_X2_48 : r_CV RX2 48 mX3_first 1 := ⟨cm_X3_first, pw_w570, pw_w453, pw_w454⟩
theorem cm_X1_startDays : r_CM mX1_startDays 2 := ⟨pw_w509, pw_w70, by decide +kernel, ⟨by decide +kernel, by decide +kernel⟩, by decide +kernel, by decide⟩
theorem ml_X2_51 : r_CV RX2 51 mX1_startDays 2 := ⟨cm_X1_startDays, pw_w571, pw_w507, pw_w508⟩
theorem cm_X5_firstDay : r_CM mX5_firstDay 2 := ⟨pw_w545, pw_w66, by decide +kernel, ⟨by decide +kernel, by decide +kernel⟩, by decide +kernel, by decide⟩
theorem ml_X2_57 : r_CN RX2 57 mX5_firstDay 2 := ⟨cm_X5_firstDay, ⟨_, pw_w576⟩, pw_w544⟩
theorem fl_X2_19 : r_FL RX2 19 2 2 := ⟨RX2, TX2, 7, rfl, by decide, pw_w169, pw_uX2⟩
theorem ml_X2_61 : r_CN RX2 61 mX5_within 3 := ⟨cm_X5_within, ⟨_, pw_w581⟩, pw_w261⟩
theorem fl_X2_65 : r_FL RX2 65 2 6 := ⟨RX2, TX2, 7, rfl, by decide, pw_w173, pw_uX2⟩
theorem fp_X2_65 : r_FP RX2 65 2 6 .int := ⟨RX2, TX2, 7, tyX2, rfl, by decide, pw_w173, pw_uX2, tyX2_ok, nmX2, rfl, by decide +kernel⟩
theorem cm_X2_search : r_CM mX2_search 3 := ⟨pw_w593, pw_w71, by decide +kernel, ⟨by decide +kernel, by decide +kernel⟩, by decide +kernel, by decide⟩
theorem ml_X2_68 : r_CV RX2 68 mX2_search 3 := ⟨cm_X2_search, pw_w590, pw_w592, pw_w11⟩
theorem fl_X2_25 : r_FL RX2 25 2 4 := ⟨RX2, TX2, 7, rfl, by decide, pw_w171, pw_uX2⟩
theorem cm_X2_keepRow : r_CM mX2_keepRow 0 := ⟨pw_w597, pw_w71, by decide +kernel, ⟨by decide +kernel, by decide +kernel⟩, by decide +kernel, by decide⟩
theorem ml_X2_72 : r_CV RX2 72 mX2_keepRow 0 := ⟨cm_X2_keepRow, pw_w594, pw_w596, pw_w12⟩
theorem ml_X2_75 : r_CN RX2 75 mX5_bit 2 := ⟨cm_X5_bit, ⟨_, pw_w598⟩, pw_w326⟩
theorem fl_X2_22 : r_FL RX2 22 2 3 := ⟨RX2, TX2, 7, rfl, by decide, pw_w170, pw_uX2⟩
theorem fl_X3_31 : r_FL RX3 31 3 4 := ⟨RX3, TX3, 5, rfl, by decide, pw_w124, pw_uX3⟩
theorem fp_X3_31 : r_FP RX3 31 3 4 .int := ⟨RX3, TX3, 5, tyX3, rfl, by decide, pw_w124, pw_uX3, tyX3_ok, nmX3, rfl, by decide +kernel⟩
theorem fl_X3_15 : r_FL RX3 15 3 0 := ⟨RX3, TX3, 5, rfl, by decide, pw_w120, pw_uX3⟩
theorem fl_X3_21 : r_FL RX3 21 3 1 := ⟨RX3, TX3, 5, rfl, by decide, pw_w121, pw_uX3⟩
theorem fl_X3_25 : r_FL RX3 25 3 2 := ⟨RX3, TX3, 5, rfl, by decide, pw_w122, pw_uX3⟩
theorem fl_X3_28 : r_FL RX3 28 3 3 := ⟨RX3, TX3, 5, rfl, by decide, pw_w123, pw_uX3⟩
theorem ml_X3_34 : r_CN RX3 34 mX5_within 3 := ⟨cm_X5_within, ⟨_, pw_w456⟩, pw_w261⟩
theorem fl_X4_15 : r_FL RX4 15 4 1 := ⟨RX4, TX4, 3, rfl, by decide, pw_w198, pw_uX4⟩
theorem fp_X4_15 : r_FP RX4 15 4 1 .int := ⟨RX4, TX4, 3, tyX4, rfl, by decide, pw_w198, pw_uX4, tyX4_ok, nmX4, rfl, by decide +kernel⟩
theorem fl_X4_19 : r_FL RX4 19 4 2 := ⟨RX4, TX4, 3, rfl, by decide, pw_w199, pw_uX4⟩
theorem fp_X4_19 : r_FP RX4 19 4 2 .int := ⟨RX4, TX4, 3, tyX4, rfl, by decide, pw_w199, pw_uX4, tyX4_ok, nmX4, rfl, by decide +kernel⟩
theorem ml_X4_22 : r_CS RX4 22 mJ9_min_7cf53 2 := ⟨cm_J9_min_7cf53, pw_w709, pw_w567⟩
theorem ml_X4_28 : r_CS RX4 28 mJ9_max_7cf53 2 := ⟨cm_J9_max_7cf53, pw_w710, pw_w118⟩
theorem fl_X4_9 : r_FL RX4 9 4 0 := ⟨RX4, TX4, 3, rfl, by decide, pw_w197, pw_uX4⟩
theorem ml_X4_31 : r_CN RX4 31 mX5_within 3 := ⟨cm_X5_within, ⟨_, pw_w409⟩, pw_w261⟩
theorem cm_X4_cut : r_CM mX4_cut 1 := ⟨pw_w741, pw_w72, by decide +kernel, ⟨by decide +kernel, by decide +kernel⟩, by decide +kernel, by decide⟩
theorem ml_X4_35 : r_CV RX4 35 mX4_cut 1 := ⟨cm_X4_cut, pw_w738, pw_w740, pw_w16⟩
theorem cm_X4_hasRange : r_CM mX4_hasRange 2 := ⟨pw_w733, pw_w72, by decide +kernel, ⟨by decide +kernel, by decide +kernel⟩, by decide +kernel, by decide⟩
theorem ml_X4_39 : r_CV RX4 39 mX4_hasRange 2 := ⟨cm_X4_hasRange, pw_w755, pw_w731, pw_w732⟩
theorem ml_X5_71 : r_CS RX5 71 mX5_within 3 := ⟨cm_X5_within, pw_w260, pw_w261⟩
theorem fl_X5_12 : r_FL RX5 12 5 0 := ⟨RX5, TX5, 16, rfl, by decide, pw_w207, pw_uX5⟩
theorem cm_X0_append : r_CM mX0_append 1 := ⟨pw_w266, pw_w67, by decide +kernel, ⟨by decide +kernel, by decide +kernel⟩, by decide +kernel, by decide⟩
theorem ml_X5_75 : r_CV RX5 75 mX0_append 1 := ⟨cm_X0_append, pw_w263, pw_w264, pw_w265⟩
theorem cm_X5_changed : r_CM mX5_changed 1 := ⟨pw_w283, pw_w66, by decide +kernel, ⟨by decide +kernel, by decide +kernel⟩, by decide +kernel, by decide⟩
theorem ml_X5_79 : r_CV RX5 79 mX5_changed 1 := ⟨cm_X5_changed, pw_w280, pw_w282, pw_w3⟩
theorem cm_X0_clear : r_CM mX0_clear 0 := ⟨pw_w291, pw_w67, by decide +kernel, ⟨by decide +kernel, by decide +kernel⟩, by decide +kernel, by decide⟩
theorem ml_X5_82 : r_CV RX5 82 mX0_clear 0 := ⟨cm_X0_clear, pw_w288, pw_w289, pw_w290⟩
theorem cm_X0_dropLast : r_CM mX0_dropLast 0 := ⟨pw_w299, pw_w67, by decide +kernel, ⟨by decide +kernel, by decide +kernel⟩, by decide +kernel, by decide⟩
theorem ml_X5_86 : r_CV RX5 86 mX0_dropLast 0 := ⟨cm_X0_dropLast, pw_w296, pw_w297, pw_w298⟩
theorem cm_X0_faultPlace : r_CM mX0_faultPlace 0 := ⟨pw_w307, pw_w67, by decide +kernel, ⟨by decide +kernel, by decide +kernel⟩, by decide +kernel, by decide⟩
theorem ml_X5_89 : r_CV RX5 89 mX0_faultPlace 0 := ⟨cm_X0_faultPlace, pw_w304, pw_w305, pw_w306⟩
theorem ml_X5_92 : r_CV RX5 92 mX0_has 1 := ⟨cm_X0_has, pw_w312, pw_w313, pw_w314⟩
theorem cm_X0_fineOf : r_CM mX0_fineOf 1 := ⟨pw_w319, pw_w67, by decide +kernel, ⟨by decide +kernel, by decide +kernel⟩, by decide +kernel, by decide⟩
theorem ml_X5_96 : r_CV RX5 96 mX0_fineOf 1 := ⟨cm_X0_fineOf, pw_w316, pw_w317, pw_w318⟩
theorem ml_X5_99 : r_CV RX5 99 mX0_elderBits 0 := ⟨cm_X0_elderBits, pw_w321, pw_w322, pw_w323⟩
theorem ml_X5_102 : r_CS RX5 102 mX5_bit 2 := ⟨cm_X5_bit, pw_w325, pw_w326⟩
theorem fl_X5_106 : r_FL RX5 106 5 12 := ⟨RX5, TX5, 16, rfl, by decide, pw_w219, pw_uX5⟩
theorem fp_X5_106 : r_FP RX5 106 5 12 .int := ⟨RX5, TX5, 16, tyX5, rfl, by decide, pw_w219, pw_uX5, tyX5_ok, nmX5, rfl, by decide +kernel⟩
theorem ml_X5_110 : r_CV RX5 110 mX0_youngerBits 1 := ⟨cm_X0_youngerBits, pw_w328, pw_w329, pw_w330⟩
theorem fl_X5_113 : r_FL RX5 113 5 13 := ⟨RX5, TX5, 16, rfl, by decide, pw_w220, pw_uX5⟩
theorem fp_X5_113 : r_FP RX5 113 5 13 .int := ⟨RX5, TX5, 16, tyX5, rfl, by decide, pw_w220, pw_uX5, tyX5_ok, nmX5, rfl, by decide +kernel⟩
theorem ml_X5_116 : r_CS RX5 116 mX5_isKing 1 := ⟨cm_X5_isKing, pw_w345, pw_w346⟩
theorem ml_X5_119 : r_CS RX5 119 mX5_isDay 1 := ⟨cm_X5_isDay, pw_w348, pw_w349⟩
theorem fl_X5_21 : r_FL RX5 21 5 1 := ⟨RX5, TX5, 16, rfl, by decide, pw_w208, pw_uX5⟩
theorem cm_X3_add : r_CM mX3_add 3 := ⟨pw_w354, pw_w68, by decide +kernel, ⟨by decide +kernel, by decide +kernel⟩, by decide +kernel, by decide⟩
theorem ml_X5_122 : r_CV RX5 122 mX3_add 3 := ⟨cm_X3_add, pw_w351, pw_w352, pw_w353⟩
theorem fl_X5_25 : r_FL RX5 25 5 2 := ⟨RX5, TX5, 16, rfl, by decide, pw_w209, pw_uX5⟩
theorem cm_X5_mayBeDeed : r_CM mX5_mayBeDeed 1 := ⟨pw_w365, pw_w66, by decide +kernel, ⟨by decide +kernel, by decide +kernel⟩, by decide +kernel, by decide⟩
theorem ml_X5_126 : r_CS RX5 126 mX5_mayBeDeed 1 := ⟨cm_X5_mayBeDeed, pw_w363, pw_w364⟩
theorem fl_X5_28 : r_FL RX5 28 5 3 := ⟨RX5, TX5, 16, rfl, by decide, pw_w210, pw_uX5⟩
theorem fl_X5_31 : r_FL RX5 31 5 4 := ⟨RX5, TX5, 16, rfl, by decide, pw_w211, pw_uX5⟩
theorem fl_X5_34 : r_FL RX5 34 5 5 := ⟨RX5, TX5, 16, rfl, by decide, pw_w212, pw_uX5⟩
theorem cm_X5_undoable : r_CM mX5_undoable 1 := ⟨pw_w381, pw_w66, by decide +kernel, ⟨by decide +kernel, by decide +kernel⟩, by decide +kernel, by decide⟩
theorem ml_X5_129 : r_CV RX5 129 mX5_undoable 1 := ⟨cm_X5_undoable, pw_w378, pw_w380, pw_w5⟩
theorem cm_X3_dropLast : r_CM mX3_dropLast 0 := ⟨pw_w385, pw_w68, by decide +kernel, ⟨by decide +kernel, by decide +kernel⟩, by decide +kernel, by decide⟩
theorem ml_X5_133 : r_CV RX5 133 mX3_dropLast 0 := ⟨cm_X3_dropLast, pw_w382, pw_w383, pw_w384⟩
theorem cm_X5_isSheet : r_CM mX5_isSheet 1 := ⟨pw_w392, pw_w66, by decide +kernel, ⟨by decide +kernel, by decide +kernel⟩, by decide +kernel, by decide⟩
theorem ml_X5_134 : r_CS RX5 134 mX5_isSheet 1 := ⟨cm_X5_isSheet, pw_w390, pw_w391⟩
theorem fl_X5_62 : r_FL RX5 62 5 11 := ⟨RX5, TX5, 16, rfl, by decide, pw_w218, pw_uX5⟩
theorem cm_X4_isLost : r_CM mX4_isLost 0 := ⟨pw_w396, pw_w72, by decide +kernel, ⟨by decide +kernel, by decide +kernel⟩, by decide +kernel, by decide⟩
theorem ml_X5_137 : r_CV RX5 137 mX4_isLost 0 := ⟨cm_X4_isLost, pw_w393, pw_w394, pw_w395⟩
theorem cm_X5_found : r_CM mX5_found 1 := ⟨pw_w400, pw_w66, by decide +kernel, ⟨by decide +kernel, by decide +kernel⟩, by decide +kernel, by decide⟩
theorem ml_X5_141 : r_CV RX5 141 mX5_found 1 := ⟨cm_X5_found, pw_w397, pw_w399, pw_w6⟩
theorem cm_X4_size : r_CM mX4_size 0 := ⟨pw_w404, pw_w72, by decide +kernel, ⟨by decide +kernel, by decide +kernel⟩, by decide +kernel, by decide⟩
theorem ml_X5_144 : r_CV RX5 144 mX4_size 0 := ⟨cm_X4_size, pw_w401, pw_w402, pw_w403⟩
theorem cm_X4_item : r_CM mX4_item 1 := ⟨pw_w408, pw_w72, by decide +kernel, ⟨by decide +kernel, by decide +kernel⟩, by decide +kernel, by decide⟩
theorem ml_X5_147 : r_CV RX5 147 mX4_item 1 := ⟨cm_X4_item, pw_w405, pw_w406, pw_w407⟩
theorem cm_X5_edict : r_CM mX5_edict 2 := ⟨pw_w362, pw_w66, by decide +kernel, ⟨by decide +kernel, by decide +kernel⟩, by decide +kernel, by decide⟩
theorem ml_X5_150 : r_CV RX5 150 mX5_edict 2 := ⟨cm_X5_edict, pw_w410, pw_w360, pw_w361⟩
theorem cm_X5_laws : r_CM mX5_laws 0 := ⟨pw_w418, pw_w66, by decide +kernel, ⟨by decide +kernel, by decide +kernel⟩, by decide +kernel, by decide⟩
theorem ml_X5_153 : r_CV RX5 153 mX5_laws 0 := ⟨cm_X5_laws, pw_w415, pw_w417, pw_w7⟩
theorem ml_X5_157 : r_CV RX5 157 mX1_rulerOn 1 := ⟨cm_X1_rulerOn, pw_w473, pw_w474, pw_w475⟩
theorem ml_X5_160 : r_CV RX5 160 mX1_saidOn 2 := ⟨cm_X1_saidOn, pw_w481, pw_w482, pw_w483⟩
theorem ml_X5_163 : r_CV RX5 163 mX1_openOn 1 := ⟨cm_X1_openOn, pw_w489, pw_w490, pw_w491⟩
theorem ml_X5_166 : r_CV RX5 166 mX1_everyDeed 0 := ⟨cm_X1_everyDeed, pw_w497, pw_w470, pw_w471⟩
theorem ml_X5_169 : r_CV RX5 169 mX1_startDays 2 := ⟨cm_X1_startDays, pw_w506, pw_w507, pw_w508⟩
theorem ml_X5_173 : r_CV RX5 173 mX3_size 0 := ⟨cm_X3_size, pw_w519, pw_w449, pw_w450⟩
theorem cm_X5_finesInCoin : r_CM mX5_finesInCoin 3 := ⟨pw_w523, pw_w66, by decide +kernel, ⟨by decide +kernel, by decide +kernel⟩, by decide +kernel, by decide⟩
theorem ml_X5_174 : r_CV RX5 174 mX5_finesInCoin 3 := ⟨cm_X5_finesInCoin, pw_w520, pw_w522, pw_w10⟩
theorem ml_X5_178 : r_CS RX5 178 mX5_firstDay 2 := ⟨cm_X5_firstDay, pw_w543, pw_w544⟩
theorem ml_X5_182 : r_CV RX5 182 mX1_openDays 1 := ⟨cm_X1_openDays, pw_w553, pw_w511, pw_w512⟩
theorem cm_X5_closedDays : r_CM mX5_closedDays 3 := ⟨pw_w556, pw_w66, by decide +kernel, ⟨by decide +kernel, by decide +kernel⟩, by decide +kernel, by decide⟩
theorem ml_X5_186 : r_CS RX5 186 mX5_closedDays 3 := ⟨cm_X5_closedDays, pw_w554, pw_w555⟩
theorem fl_X5_56 : r_FL RX5 56 5 10 := ⟨RX5, TX5, 16, rfl, by decide, pw_w217, pw_uX5⟩
theorem cm_X2_prepare : r_CM mX2_prepare 2 := ⟨pw_w564, pw_w71, by decide +kernel, ⟨by decide +kernel, by decide +kernel⟩, by decide +kernel, by decide⟩
theorem ml_X5_190 : r_CV RX5 190 mX2_prepare 2 := ⟨cm_X2_prepare, pw_w561, pw_w562, pw_w563⟩
theorem cm_X2_layInTurn : r_CM mX2_layInTurn 1 := ⟨pw_w575, pw_w71, by decide +kernel, ⟨by decide +kernel, by decide +kernel⟩, by decide +kernel, by decide⟩
theorem ml_X5_194 : r_CV RX5 194 mX2_layInTurn 1 := ⟨cm_X2_layInTurn, pw_w572, pw_w573, pw_w574⟩
theorem cm_X2_startInTurn : r_CM mX2_startInTurn 1 := ⟨pw_w580, pw_w71, by decide +kernel, ⟨by decide +kernel, by decide +kernel⟩, by decide +kernel, by decide⟩
theorem ml_X5_197 : r_CV RX5 197 mX2_startInTurn 1 := ⟨cm_X2_startInTurn, pw_w577, pw_w578, pw_w579⟩
theorem cm_X2_findBestRow : r_CM mX2_findBestRow 1 := ⟨pw_w589, pw_w71, by decide +kernel, ⟨by decide +kernel, by decide +kernel⟩, by decide +kernel, by decide⟩
theorem ml_X5_200 : r_CV RX5 200 mX2_findBestRow 1 := ⟨cm_X2_findBestRow, pw_w586, pw_w587, pw_w588⟩
theorem cm_X2_taskInBestRow : r_CM mX2_taskInBestRow 1 := ⟨pw_w602, pw_w71, by decide +kernel, ⟨by decide +kernel, by decide +kernel⟩, by decide +kernel, by decide⟩
theorem ml_X5_203 : r_CV RX5 203 mX2_taskInBestRow 1 := ⟨cm_X2_taskInBestRow, pw_w599, pw_w600, pw_w601⟩
theorem ml_X5_206 : r_CV RX5 206 mX1_numberAtBest 2 := ⟨cm_X1_numberAtBest, pw_w607, pw_w608, pw_w609⟩
theorem cm_X1_wordAtBest : r_CM mX1_wordAtBest 2 := ⟨pw_w628, pw_w70, by decide +kernel, ⟨by decide +kernel, by decide +kernel⟩, by decide +kernel, by decide⟩
theorem ml_X5_209 : r_CV RX5 209 mX1_wordAtBest 2 := ⟨cm_X1_wordAtBest, pw_w625, pw_w626, pw_w627⟩
theorem fl_X5_37 : r_FL RX5 37 5 6 := ⟨RX5, TX5, 16, rfl, by decide, pw_w213, pw_uX5⟩
theorem fl_X5_40 : r_FL RX5 40 5 7 := ⟨RX5, TX5, 16, rfl, by decide, pw_w214, pw_uX5⟩
theorem cm_X3_clear : r_CM mX3_clear 0 := ⟨pw_w645, pw_w68, by decide +kernel, ⟨by decide +kernel, by decide +kernel⟩, by decide +kernel, by decide⟩
theorem ml_X5_212 : r_CV RX5 212 mX3_clear 0 := ⟨cm_X3_clear, pw_w642, pw_w643, pw_w644⟩
theorem cm_X5_daysAsSeen : r_CM mX5_daysAsSeen 0 := ⟨pw_w653, pw_w66, by decide +kernel, ⟨by decide +kernel, by decide +kernel⟩, by decide +kernel, by decide⟩
theorem ml_X5_213 : r_CV RX5 213 mX5_daysAsSeen 0 := ⟨cm_X5_daysAsSeen, pw_w650, pw_w652, pw_w14⟩
theorem cm_J13_bitCount_95d88 : r_CM mJ13_bitCount_95d88 1 := ⟨pw_w658, pw_w75, by decide +kernel, ⟨by decide +kernel, by decide +kernel⟩, by decide +kernel, by decide⟩
theorem ml_X5_217 : r_CS RX5 217 mJ13_bitCount_95d88 1 := ⟨cm_J13_bitCount_95d88, pw_w656, pw_w657⟩
theorem cm_X5_dayInOrder : r_CM mX5_dayInOrder 2 := ⟨pw_w664, pw_w66, by decide +kernel, ⟨by decide +kernel, by decide +kernel⟩, by decide +kernel, by decide⟩
theorem ml_X5_223 : r_CS RX5 223 mX5_dayInOrder 2 := ⟨cm_X5_dayInOrder, pw_w662, pw_w663⟩
theorem ml_X5_226 : r_CV RX5 226 mX0_number 0 := ⟨cm_X0_number, pw_w669, pw_w441, pw_w442⟩
theorem ml_X5_229 : r_CS RX5 229 mJ9_max_7cf53 2 := ⟨cm_J9_max_7cf53, pw_w670, pw_w118⟩
theorem fl_X5_50 : r_FL RX5 50 5 9 := ⟨RX5, TX5, 16, rfl, by decide, pw_w216, pw_uX5⟩
theorem cm_X1_seat : r_CM mX1_seat 2 := ⟨pw_w422, pw_w70, by decide +kernel, ⟨by decide +kernel, by decide +kernel⟩, by decide +kernel, by decide⟩
theorem ml_X5_234 : r_CV RX5 234 mX1_seat 2 := ⟨cm_X1_seat, pw_w419, pw_w420, pw_w421⟩
theorem cm_X1_speak : r_CM mX1_speak 4 := ⟨pw_w439, pw_w70, by decide +kernel, ⟨by decide +kernel, by decide +kernel⟩, by decide +kernel, by decide⟩
theorem ml_X5_238 : r_CV RX5 238 mX1_speak 4 := ⟨cm_X1_speak, pw_w436, pw_w437, pw_w438⟩
theorem cm_X5_agreesWithBook : r_CM mX5_agreesWithBook 1 := ⟨pw_w678, pw_w66, by decide +kernel, ⟨by decide +kernel, by decide +kernel⟩, by decide +kernel, by decide⟩
theorem ml_X5_242 : r_CV RX5 242 mX5_agreesWithBook 1 := ⟨cm_X5_agreesWithBook, pw_w675, pw_w677, pw_w15⟩
theorem cm_X1_openIn256 : r_CM mX1_openIn256 3 := ⟨pw_w687, pw_w70, by decide +kernel, ⟨by decide +kernel, by decide +kernel⟩, by decide +kernel, by decide⟩
theorem ml_X5_248 : r_CV RX5 248 mX1_openIn256 3 := ⟨cm_X1_openIn256, pw_w684, pw_w685, pw_w686⟩
theorem cm_X5_inLowestTerms : r_CM mX5_inLowestTerms 3 := ⟨pw_w692, pw_w66, by decide +kernel, ⟨by decide +kernel, by decide +kernel⟩, by decide +kernel, by decide⟩
theorem ml_X5_253 : r_CS RX5 253 mX5_inLowestTerms 3 := ⟨cm_X5_inLowestTerms, pw_w690, pw_w691⟩
theorem cm_X5_isForm : r_CM mX5_isForm 1 := ⟨pw_w704, pw_w66, by decide +kernel, ⟨by decide +kernel, by decide +kernel⟩, by decide +kernel, by decide⟩
theorem ml_X5_258 : r_CS RX5 258 mX5_isForm 1 := ⟨cm_X5_isForm, pw_w702, pw_w703⟩
theorem cm_X4_begin : r_CM mX4_begin 2 := ⟨pw_w708, pw_w72, by decide +kernel, ⟨by decide +kernel, by decide +kernel⟩, by decide +kernel, by decide⟩
theorem ml_X5_261 : r_CV RX5 261 mX4_begin 2 := ⟨cm_X4_begin, pw_w705, pw_w706, pw_w707⟩
theorem cm_X4_tear : r_CM mX4_tear 0 := ⟨pw_w718, pw_w72, by decide +kernel, ⟨by decide +kernel, by decide +kernel⟩, by decide +kernel, by decide⟩
theorem ml_X5_265 : r_CV RX5 265 mX4_tear 0 := ⟨cm_X4_tear, pw_w715, pw_w716, pw_w717⟩
theorem cm_X5_itemFinding : r_CM mX5_itemFinding 3 := ⟨pw_w725, pw_w66, by decide +kernel, ⟨by decide +kernel, by decide +kernel⟩, by decide +kernel, by decide⟩
theorem ml_X5_268 : r_CS RX5 268 mX5_itemFinding 3 := ⟨cm_X5_itemFinding, pw_w723, pw_w724⟩
theorem cm_X4_keep : r_CM mX4_keep 2 := ⟨pw_w737, pw_w72, by decide +kernel, ⟨by decide +kernel, by decide +kernel⟩, by decide +kernel, by decide⟩
theorem ml_X5_272 : r_CV RX5 272 mX4_keep 2 := ⟨cm_X4_keep, pw_w734, pw_w735, pw_w736⟩
theorem cm_X4_form : r_CM mX4_form 0 := ⟨pw_w729, pw_w72, by decide +kernel, ⟨by decide +kernel, by decide +kernel⟩, by decide +kernel, by decide⟩
theorem ml_X5_278 : r_CV RX5 278 mX4_form 0 := ⟨cm_X4_form, pw_w726, pw_w727, pw_w728⟩
theorem ml_X5_281 : r_CV RX5 281 mX4_hasRange 2 := ⟨cm_X4_hasRange, pw_w730, pw_w731, pw_w732⟩
theorem cm_X4_takeItems : r_CM mX4_takeItems 4 := ⟨pw_w754, pw_w72, by decide +kernel, ⟨by decide +kernel, by decide +kernel⟩, by decide +kernel, by decide⟩
theorem ml_X5_285 : r_CV RX5 285 mX4_takeItems 4 := ⟨cm_X4_takeItems, pw_w751, pw_w752, pw_w753⟩
theorem ml_X5_289 : r_CS RX5 289 mJ9_min_7cf53 2 := ⟨cm_J9_min_7cf53, pw_w763, pw_w567⟩
theorem cm_X0_length : r_CM mX0_length 0 := ⟨pw_w771, pw_w67, by decide +kernel, ⟨by decide +kernel, by decide +kernel⟩, by decide +kernel, by decide⟩
theorem ml_X5_292 : r_CV RX5 292 mX0_length 0 := ⟨cm_X0_length, pw_w768, pw_w769, pw_w770⟩
theorem fl_X5_295 : r_FL RX5 295 5 14 := ⟨RX5, TX5, 16, rfl, by decide, pw_w221, pw_uX5⟩
theorem fp_X5_295 : r_FP RX5 295 5 14 .int := ⟨RX5, TX5, 16, tyX5, rfl, by decide, pw_w221, pw_uX5, tyX5_ok, nmX5, rfl, by decide +kernel⟩
theorem cm_X5_count : r_CM mX5_count 1 := ⟨pw_w767, pw_w66, by decide +kernel, ⟨by decide +kernel, by decide +kernel⟩, by decide +kernel, by decide⟩
theorem ml_X5_300 : r_CV RX5 300 mX5_count 1 := ⟨cm_X5_count, pw_w777, pw_w765, pw_w766⟩
theorem cm_X5_mix : r_CM mX5_mix 2 := ⟨pw_w780, pw_w66, by decide +kernel, ⟨by decide +kernel, by decide +kernel⟩, by decide +kernel, by decide⟩
theorem ml_X5_303 : r_CS RX5 303 mX5_mix 2 := ⟨cm_X5_mix, pw_w778, pw_w779⟩
theorem cm_X5_fault : r_CM mX5_fault 0 := ⟨pw_w303, pw_w66, by decide +kernel, ⟨by decide +kernel, by decide +kernel⟩, by decide +kernel, by decide⟩
theorem ml_X5_307 : r_CV RX5 307 mX5_fault 0 := ⟨cm_X5_fault, pw_w782, pw_w301, pw_w302⟩
theorem cm_X5_mixDeeds : r_CM mX5_mixDeeds 1 := ⟨pw_w786, pw_w66, by decide +kernel, ⟨by decide +kernel, by decide +kernel⟩, by decide +kernel, by decide⟩
theorem ml_X5_310 : r_CV RX5 310 mX5_mixDeeds 1 := ⟨cm_X5_mixDeeds, pw_w783, pw_w785, pw_w17⟩
theorem cm_X5_mixDays : r_CM mX5_mixDays 1 := ⟨pw_w795, pw_w66, by decide +kernel, ⟨by decide +kernel, by decide +kernel⟩, by decide +kernel, by decide⟩
theorem ml_X5_314 : r_CV RX5 314 mX5_mixDays 1 := ⟨cm_X5_mixDays, pw_w792, pw_w794, pw_w18⟩
theorem cm_X5_never : r_CM mX5_never 0 := ⟨pw_w496, pw_w66, by decide +kernel, ⟨by decide +kernel, by decide +kernel⟩, by decide +kernel, by decide⟩
theorem ml_X5_317 : r_CV RX5 317 mX5_never 0 := ⟨cm_X5_never, pw_w801, pw_w494, pw_w495⟩
theorem cm_X5_alike : r_CM mX5_alike 0 := ⟨pw_w501, pw_w66, by decide +kernel, ⟨by decide +kernel, by decide +kernel⟩, by decide +kernel, by decide⟩
theorem ml_X5_320 : r_CV RX5 320 mX5_alike 0 := ⟨cm_X5_alike, pw_w802, pw_w499, pw_w500⟩
theorem cm_X5_mixFines : r_CM mX5_mixFines 1 := ⟨pw_w806, pw_w66, by decide +kernel, ⟨by decide +kernel, by decide +kernel⟩, by decide +kernel, by decide⟩
theorem ml_X5_323 : r_CV RX5 323 mX5_mixFines 1 := ⟨cm_X5_mixFines, pw_w803, pw_w805, pw_w19⟩
theorem cm_X5_mixPlans : r_CM mX5_mixPlans 1 := ⟨pw_w812, pw_w66, by decide +kernel, ⟨by decide +kernel, by decide +kernel⟩, by decide +kernel, by decide⟩
theorem ml_X5_326 : r_CV RX5 326 mX5_mixPlans 1 := ⟨cm_X5_mixPlans, pw_w809, pw_w811, pw_w20⟩
theorem cm_X5_when : r_CM mX5_when 1 := ⟨pw_w649, pw_w66, by decide +kernel, ⟨by decide +kernel, by decide +kernel⟩, by decide +kernel, by decide⟩
theorem ml_X5_329 : r_CV RX5 329 mX5_when 1 := ⟨cm_X5_when, pw_w816, pw_w647, pw_w648⟩
theorem cm_X5_ask : r_CM mX5_ask 0 := ⟨pw_w668, pw_w66, by decide +kernel, ⟨by decide +kernel, by decide +kernel⟩, by decide +kernel, by decide⟩
theorem ml_X5_332 : r_CV RX5 332 mX5_ask 0 := ⟨cm_X5_ask, pw_w817, pw_w666, pw_w667⟩
theorem cm_X5_forged : r_CM mX5_forged 0 := ⟨pw_w674, pw_w66, by decide +kernel, ⟨by decide +kernel, by decide +kernel⟩, by decide +kernel, by decide⟩
theorem ml_X5_335 : r_CV RX5 335 mX5_forged 0 := ⟨cm_X5_forged, pw_w818, pw_w672, pw_w673⟩
theorem cm_X5_year : r_CM mX5_year 3 := ⟨pw_w696, pw_w66, by decide +kernel, ⟨by decide +kernel, by decide +kernel⟩, by decide +kernel, by decide⟩
theorem ml_X5_338 : r_CV RX5 338 mX5_year 3 := ⟨cm_X5_year, pw_w819, pw_w694, pw_w695⟩
theorem cm_X5_deed : r_CM mX5_deed 2 := ⟨pw_w311, pw_w66, by decide +kernel, ⟨by decide +kernel, by decide +kernel⟩, by decide +kernel, by decide⟩
theorem ml_X5_343 : r_CV RX5 343 mX5_deed 2 := ⟨cm_X5_deed, pw_w787, pw_w309, pw_w310⟩
theorem cm_X5_crossing : r_CM mX5_crossing 1 := ⟨pw_w505, pw_w66, by decide +kernel, ⟨by decide +kernel, by decide +kernel⟩, by decide +kernel, by decide⟩
theorem ml_X5_346 : r_CV RX5 346 mX5_crossing 1 := ⟨cm_X5_crossing, pw_w788, pw_w503, pw_w504⟩
theorem cm_X5_soonest : r_CM mX5_soonest 3 := ⟨pw_w542, pw_w66, by decide +kernel, ⟨by decide +kernel, by decide +kernel⟩, by decide +kernel, by decide⟩
theorem ml_X5_349 : r_CV RX5 349 mX5_soonest 3 := ⟨cm_X5_soonest, pw_w789, pw_w540, pw_w541⟩
theorem cm_X5_cheapest : r_CM mX5_cheapest 4 := ⟨pw_w552, pw_w66, by decide +kernel, ⟨by decide +kernel, by decide +kernel⟩, by decide +kernel, by decide⟩
theorem ml_X5_352 : r_CV RX5 352 mX5_cheapest 4 := ⟨cm_X5_cheapest, pw_w790, pw_w550, pw_w551⟩
theorem cm_X5_chance : r_CM mX5_chance 5 := ⟨pw_w682, pw_w66, by decide +kernel, ⟨by decide +kernel, by decide +kernel⟩, by decide +kernel, by decide⟩
theorem ml_X5_356 : r_CV RX5 356 mX5_chance 5 := ⟨cm_X5_chance, pw_w791, pw_w680, pw_w681⟩
theorem cm_X5_rules : r_CM mX5_rules 1 := ⟨pw_w414, pw_w66, by decide +kernel, ⟨by decide +kernel, by decide +kernel⟩, by decide +kernel, by decide⟩
theorem ml_X5_364 : r_CV RX5 364 mX5_rules 1 := ⟨cm_X5_rules, pw_w798, pw_w412, pw_w413⟩
theorem cm_X5_allows : r_CM mX5_allows 2 := ⟨pw_w480, pw_w66, by decide +kernel, ⟨by decide +kernel, by decide +kernel⟩, by decide +kernel, by decide⟩
theorem ml_X5_367 : r_CV RX5 367 mX5_allows 2 := ⟨cm_X5_allows, pw_w799, pw_w478, pw_w479⟩
theorem cm_X5_allowed : r_CM mX5_allowed 1 := ⟨pw_w488, pw_w66, by decide +kernel, ⟨by decide +kernel, by decide +kernel⟩, by decide +kernel, by decide⟩
theorem ml_X5_370 : r_CV RX5 370 mX5_allowed 1 := ⟨cm_X5_allowed, pw_w800, pw_w486, pw_w487⟩
theorem cm_X5_fined : r_CM mX5_fined 1 := ⟨pw_w518, pw_w66, by decide +kernel, ⟨by decide +kernel, by decide +kernel⟩, by decide +kernel, by decide⟩
theorem ml_X5_373 : r_CV RX5 373 mX5_fined 1 := ⟨cm_X5_fined, pw_w807, pw_w516, pw_w517⟩
theorem cm_X5_coins : r_CM mX5_coins 1 := ⟨pw_w538, pw_w66, by decide +kernel, ⟨by decide +kernel, by decide +kernel⟩, by decide +kernel, by decide⟩
theorem ml_X5_376 : r_CV RX5 376 mX5_coins 1 := ⟨cm_X5_coins, pw_w808, pw_w536, pw_w537⟩
theorem cm_X5_finish : r_CM mX5_finish 2 := ⟨pw_w560, pw_w66, by decide +kernel, ⟨by decide +kernel, by decide +kernel⟩, by decide +kernel, by decide⟩
theorem ml_X5_379 : r_CV RX5 379 mX5_finish 2 := ⟨cm_X5_finish, pw_w813, pw_w558, pw_w559⟩
theorem cm_X5_plan : r_CM mX5_plan 2 := ⟨pw_w585, pw_w66, by decide +kernel, ⟨by decide +kernel, by decide +kernel⟩, by decide +kernel, by decide⟩
theorem ml_X5_382 : r_CV RX5 382 mX5_plan 2 := ⟨cm_X5_plan, pw_w814, pw_w583, pw_w584⟩
theorem cm_X5_words : r_CM mX5_words 3 := ⟨pw_w606, pw_w66, by decide +kernel, ⟨by decide +kernel, by decide +kernel⟩, by decide +kernel, by decide⟩
theorem ml_X5_385 : r_CV RX5 385 mX5_words 3 := ⟨cm_X5_words, pw_w815, pw_w604, pw_w605⟩
theorem fl_X5_66 : r_FL RX5 66 5 15 := ⟨RX5, TX5, 16, rfl, by decide, pw_w222, pw_uX5⟩
theorem fp_X5_66 : r_FP RX5 66 5 15 .boolean := ⟨RX5, TX5, 16, tyX5, rfl, by decide, pw_w222, pw_uX5, tyX5_ok, nmX5, rfl, by decide +kernel⟩
theorem fl_X5_46 : r_FL RX5 46 5 8 := ⟨RX5, TX5, 16, rfl, by decide, pw_w215, pw_uX5⟩
theorem ml_X5_388 : r_CV RX5 388 mX3_second 1 := ⟨cm_X3_second, pw_w524, pw_w458, pw_w459⟩
theorem ml_X5_391 : r_CV RX5 391 mX3_first 1 := ⟨cm_X3_first, pw_w525, pw_w453, pw_w454⟩
theorem cm_X3_third : r_CM mX3_third 1 := ⟨pw_w529, pw_w68, by decide +kernel, ⟨by decide +kernel, by decide +kernel⟩, by decide +kernel, by decide⟩
theorem ml_X5_394 : r_CV RX5 394 mX3_third 1 := ⟨cm_X3_third, pw_w526, pw_w527, pw_w528⟩
theorem cm_X1_coinOn : r_CM mX1_coinOn 1 := ⟨pw_w533, pw_w70, by decide +kernel, ⟨by decide +kernel, by decide +kernel⟩, by decide +kernel, by decide⟩
theorem ml_X5_397 : r_CV RX5 397 mX1_coinOn 1 := ⟨cm_X1_coinOn, pw_w530, pw_w531, pw_w532⟩
theorem cm_X5_holdsDay : r_CM mX5_holdsDay 2 := ⟨pw_w548, pw_w66, by decide +kernel, ⟨by decide +kernel, by decide +kernel⟩, by decide +kernel, by decide⟩
theorem ml_X5_404 : r_CS RX5 404 mX5_holdsDay 2 := ⟨cm_X5_holdsDay, pw_w546, pw_w547⟩
theorem cm_X6_in : r_CM mX6_in 3 := ⟨pw_w960, pw_w73, by decide +kernel, ⟨by decide +kernel, by decide +kernel⟩, by decide +kernel, by decide⟩
theorem ml_X6_106 : r_CS RX6 106 mX6_in 3 := ⟨cm_X6_in, pw_w958, pw_w959⟩
theorem fl_X6_110 : r_FL RX6 110 6 1 := ⟨RX6, TX6, 42, rfl, by decide, pw_w827, pw_uX6⟩
theorem fp_X6_110 : r_FP RX6 110 6 1 .int := ⟨RX6, TX6, 42, tyX6, rfl, by decide, pw_w827, pw_uX6, tyX6_ok, nmX6, rfl, by decide +kernel⟩
theorem fl_X6_7 : r_FL RX6 7 6 0 := ⟨RX6, TX6, 42, rfl, by decide, pw_w826, pw_uX6⟩
theorem fl_X6_114 : r_FL RX6 114 6 2 := ⟨RX6, TX6, 42, rfl, by decide, pw_w828, pw_uX6⟩
theorem fp_X6_114 : r_FP RX6 114 6 2 .int := ⟨RX6, TX6, 42, tyX6, rfl, by decide, pw_w828, pw_uX6, tyX6_ok, nmX6, rfl, by decide +kernel⟩
theorem fl_X6_117 : r_FL RX6 117 6 4 := ⟨RX6, TX6, 42, rfl, by decide, pw_w830, pw_uX6⟩
theorem fp_X6_117 : r_FP RX6 117 6 4 .int := ⟨RX6, TX6, 42, tyX6, rfl, by decide, pw_w830, pw_uX6, tyX6_ok, nmX6, rfl, by decide +kernel⟩
theorem fl_X6_13 : r_FL RX6 13 6 3 := ⟨RX6, TX6, 42, rfl, by decide, pw_w829, pw_uX6⟩
theorem cm_X6_faultNow : r_CM mX6_faultNow 0 := ⟨pw_w976, pw_w73, by decide +kernel, ⟨by decide +kernel, by decide +kernel⟩, by decide +kernel, by decide⟩
theorem ml_X6_120 : r_CV RX6 120 mX6_faultNow 0 := ⟨cm_X6_faultNow, pw_w973, pw_w975, pw_w21⟩
theorem cm_X6_reads : r_CM mX6_reads 0 := ⟨pw_w988, pw_w73, by decide +kernel, ⟨by decide +kernel, by decide +kernel⟩, by decide +kernel, by decide⟩
theorem ml_X6_124 : r_CV RX6 124 mX6_reads 0 := ⟨cm_X6_reads, pw_w985, pw_w987, pw_w23⟩
theorem cm_X6_isIn : r_CM mX6_isIn 2 := ⟨pw_w999, pw_w73, by decide +kernel, ⟨by decide +kernel, by decide +kernel⟩, by decide +kernel, by decide⟩
theorem ml_X6_127 : r_CS RX6 127 mX6_isIn 2 := ⟨cm_X6_isIn, pw_w997, pw_w998⟩
theorem fl_X6_131 : r_FL RX6 131 6 5 := ⟨RX6, TX6, 42, rfl, by decide, pw_w831, pw_uX6⟩
theorem fp_X6_131 : r_FP RX6 131 6 5 .int := ⟨RX6, TX6, 42, tyX6, rfl, by decide, pw_w831, pw_uX6, tyX6_ok, nmX6, rfl, by decide +kernel⟩
theorem cm_X6_youngerFirst : r_CM mX6_youngerFirst 0 := ⟨pw_w996, pw_w73, by decide +kernel, ⟨by decide +kernel, by decide +kernel⟩, by decide +kernel, by decide⟩
theorem ml_X6_134 : r_CV RX6 134 mX6_youngerFirst 0 := ⟨cm_X6_youngerFirst, pw_w993, pw_w995, pw_w25⟩
theorem cm_X6_isDeed : r_CM mX6_isDeed 1 := ⟨pw_w984, pw_w73, by decide +kernel, ⟨by decide +kernel, by decide +kernel⟩, by decide +kernel, by decide⟩
theorem ml_X6_137 : r_CV RX6 137 mX6_isDeed 1 := ⟨cm_X6_isDeed, pw_w981, pw_w983, pw_w22⟩
theorem cm_X6_deedOf : r_CM mX6_deedOf 2 := ⟨pw_w992, pw_w73, by decide +kernel, ⟨by decide +kernel, by decide +kernel⟩, by decide +kernel, by decide⟩
theorem ml_X6_141 : r_CV RX6 141 mX6_deedOf 2 := ⟨cm_X6_deedOf, pw_w989, pw_w991, pw_w24⟩
theorem cm_X6_isTwo : r_CM mX6_isTwo 1 := ⟨pw_w1006, pw_w73, by decide +kernel, ⟨by decide +kernel, by decide +kernel⟩, by decide +kernel, by decide⟩
theorem ml_X6_145 : r_CS RX6 145 mX6_isTwo 1 := ⟨cm_X6_isTwo, pw_w1004, pw_w1005⟩
theorem fl_X6_148 : r_FL RX6 148 6 6 := ⟨RX6, TX6, 42, rfl, by decide, pw_w832, pw_uX6⟩
theorem fp_X6_148 : r_FP RX6 148 6 6 .int := ⟨RX6, TX6, 42, tyX6, rfl, by decide, pw_w832, pw_uX6, tyX6_ok, nmX6, rfl, by decide +kernel⟩
theorem cm_X6_isDay : r_CM mX6_isDay 1 := ⟨pw_w1013, pw_w73, by decide +kernel, ⟨by decide +kernel, by decide +kernel⟩, by decide +kernel, by decide⟩
theorem ml_X6_151 : r_CS RX6 151 mX6_isDay 1 := ⟨cm_X6_isDay, pw_w1011, pw_w1012⟩
theorem fl_X6_16 : r_FL RX6 16 6 7 := ⟨RX6, TX6, 42, rfl, by decide, pw_w833, pw_uX6⟩
theorem fl_X6_19 : r_FL RX6 19 6 8 := ⟨RX6, TX6, 42, rfl, by decide, pw_w834, pw_uX6⟩
theorem fl_X6_22 : r_FL RX6 22 6 9 := ⟨RX6, TX6, 42, rfl, by decide, pw_w835, pw_uX6⟩
theorem fl_X6_25 : r_FL RX6 25 6 10 := ⟨RX6, TX6, 42, rfl, by decide, pw_w836, pw_uX6⟩
theorem cm_X6_isEight : r_CM mX6_isEight 1 := ⟨pw_w1024, pw_w73, by decide +kernel, ⟨by decide +kernel, by decide +kernel⟩, by decide +kernel, by decide⟩
theorem ml_X6_154 : r_CS RX6 154 mX6_isEight 1 := ⟨cm_X6_isEight, pw_w1022, pw_w1023⟩
theorem fl_X6_28 : r_FL RX6 28 6 11 := ⟨RX6, TX6, 42, rfl, by decide, pw_w837, pw_uX6⟩
theorem fl_X6_31 : r_FL RX6 31 6 12 := ⟨RX6, TX6, 42, rfl, by decide, pw_w838, pw_uX6⟩
theorem fl_X6_34 : r_FL RX6 34 6 13 := ⟨RX6, TX6, 42, rfl, by decide, pw_w839, pw_uX6⟩
theorem fl_X6_37 : r_FL RX6 37 6 14 := ⟨RX6, TX6, 42, rfl, by decide, pw_w840, pw_uX6⟩
theorem fl_X6_40 : r_FL RX6 40 6 15 := ⟨RX6, TX6, 42, rfl, by decide, pw_w841, pw_uX6⟩
theorem fl_X6_43 : r_FL RX6 43 6 16 := ⟨RX6, TX6, 42, rfl, by decide, pw_w842, pw_uX6⟩
theorem fl_X6_46 : r_FL RX6 46 6 17 := ⟨RX6, TX6, 42, rfl, by decide, pw_w843, pw_uX6⟩
theorem cm_X6_isSheet : r_CM mX6_isSheet 1 := ⟨pw_w1043, pw_w73, by decide +kernel, ⟨by decide +kernel, by decide +kernel⟩, by decide +kernel, by decide⟩
theorem ml_X6_157 : r_CS RX6 157 mX6_isSheet 1 := ⟨cm_X6_isSheet, pw_w1041, pw_w1042⟩
theorem fl_X6_88 : r_FL RX6 88 6 36 := ⟨RX6, TX6, 42, rfl, by decide, pw_w862, pw_uX6⟩
theorem cm_X6_meets : r_CM mX6_meets 1 := ⟨pw_w1047, pw_w73, by decide +kernel, ⟨by decide +kernel, by decide +kernel⟩, by decide +kernel, by decide⟩
theorem ml_X6_160 : r_CV RX6 160 mX6_meets 1 := ⟨cm_X6_meets, pw_w1044, pw_w1046, pw_w26⟩
theorem fl_X6_95 : r_FL RX6 95 6 38 := ⟨RX6, TX6, 42, rfl, by decide, pw_w864, pw_uX6⟩
theorem fl_X6_98 : r_FL RX6 98 6 39 := ⟨RX6, TX6, 42, rfl, by decide, pw_w865, pw_uX6⟩
theorem cm_X6_edict : r_CM mX6_edict 2 := ⟨pw_w1021, pw_w73, by decide +kernel, ⟨by decide +kernel, by decide +kernel⟩, by decide +kernel, by decide⟩
theorem ml_X6_164 : r_CV RX6 164 mX6_edict 2 := ⟨cm_X6_edict, pw_w1048, pw_w1019, pw_w1020⟩
theorem cm_X6_isLeap : r_CM mX6_isLeap 1 := ⟨pw_w1060, pw_w73, by decide +kernel, ⟨by decide +kernel, by decide +kernel⟩, by decide +kernel, by decide⟩
theorem ml_X6_167 : r_CV RX6 167 mX6_isLeap 1 := ⟨cm_X6_isLeap, pw_w1057, pw_w1059, pw_w28⟩
theorem cm_X6_isSick : r_CM mX6_isSick 2 := ⟨pw_w1064, pw_w73, by decide +kernel, ⟨by decide +kernel, by decide +kernel⟩, by decide +kernel, by decide⟩
theorem ml_X6_170 : r_CV RX6 170 mX6_isSick 2 := ⟨cm_X6_isSick, pw_w1061, pw_w1063, pw_w29⟩
theorem cm_X6_rulesOf : r_CM mX6_rulesOf 1 := ⟨pw_w1056, pw_w73, by decide +kernel, ⟨by decide +kernel, by decide +kernel⟩, by decide +kernel, by decide⟩
theorem ml_X6_173 : r_CV RX6 173 mX6_rulesOf 1 := ⟨cm_X6_rulesOf, pw_w1053, pw_w1055, pw_w27⟩
theorem fl_X6_176 : r_FL RX6 176 6 21 := ⟨RX6, TX6, 42, rfl, by decide, pw_w847, pw_uX6⟩
theorem fp_X6_176 : r_FP RX6 176 6 21 .int := ⟨RX6, TX6, 42, tyX6, rfl, by decide, pw_w847, pw_uX6, tyX6_ok, nmX6, rfl, by decide +kernel⟩
theorem fl_X6_179 : r_FL RX6 179 6 23 := ⟨RX6, TX6, 42, rfl, by decide, pw_w849, pw_uX6⟩
theorem fp_X6_179 : r_FP RX6 179 6 23 .int := ⟨RX6, TX6, 42, tyX6, rfl, by decide, pw_w849, pw_uX6, tyX6_ok, nmX6, rfl, by decide +kernel⟩
theorem fl_X6_49 : r_FL RX6 49 6 18 := ⟨RX6, TX6, 42, rfl, by decide, pw_w844, pw_uX6⟩
theorem fl_X6_52 : r_FL RX6 52 6 19 := ⟨RX6, TX6, 42, rfl, by decide, pw_w845, pw_uX6⟩
theorem cm_X6_allDeeds : r_CM mX6_allDeeds 0 := ⟨pw_w1088, pw_w73, by decide +kernel, ⟨by decide +kernel, by decide +kernel⟩, by decide +kernel, by decide⟩
theorem ml_X6_182 : r_CV RX6 182 mX6_allDeeds 0 := ⟨cm_X6_allDeeds, pw_w1085, pw_w1087, pw_w34⟩
theorem fl_X6_55 : r_FL RX6 55 6 20 := ⟨RX6, TX6, 42, rfl, by decide, pw_w846, pw_uX6⟩
theorem fl_X6_185 : r_FL RX6 185 6 22 := ⟨RX6, TX6, 42, rfl, by decide, pw_w848, pw_uX6⟩
theorem fp_X6_185 : r_FP RX6 185 6 22 .int := ⟨RX6, TX6, 42, tyX6, rfl, by decide, pw_w848, pw_uX6, tyX6_ok, nmX6, rfl, by decide +kernel⟩
theorem fl_X6_58 : r_FL RX6 58 6 24 := ⟨RX6, TX6, 42, rfl, by decide, pw_w850, pw_uX6⟩
theorem cm_X6_asTold : r_CM mX6_asTold 0 := ⟨pw_w1080, pw_w73, by decide +kernel, ⟨by decide +kernel, by decide +kernel⟩, by decide +kernel, by decide⟩
theorem ml_X6_188 : r_CV RX6 188 mX6_asTold 0 := ⟨cm_X6_asTold, pw_w1077, pw_w1079, pw_w32⟩
theorem cm_X6_lays : r_CM mX6_lays 0 := ⟨pw_w1084, pw_w73, by decide +kernel, ⟨by decide +kernel, by decide +kernel⟩, by decide +kernel, by decide⟩
theorem ml_X6_191 : r_CV RX6 191 mX6_lays 0 := ⟨cm_X6_lays, pw_w1081, pw_w1083, pw_w33⟩
theorem cm_X6_laysTold : r_CM mX6_laysTold 0 := ⟨pw_w1076, pw_w73, by decide +kernel, ⟨by decide +kernel, by decide +kernel⟩, by decide +kernel, by decide⟩
theorem ml_X6_194 : r_CV RX6 194 mX6_laysTold 0 := ⟨cm_X6_laysTold, pw_w1073, pw_w1075, pw_w31⟩
theorem cm_X6_allowsOf : r_CM mX6_allowsOf 2 := ⟨pw_w1072, pw_w73, by decide +kernel, ⟨by decide +kernel, by decide +kernel⟩, by decide +kernel, by decide⟩
theorem ml_X6_197 : r_CV RX6 197 mX6_allowsOf 2 := ⟨cm_X6_allowsOf, pw_w1069, pw_w1071, pw_w30⟩
theorem cm_X6_allowedOf : r_CM mX6_allowedOf 1 := ⟨pw_w1096, pw_w73, by decide +kernel, ⟨by decide +kernel, by decide +kernel⟩, by decide +kernel, by decide⟩
theorem ml_X6_200 : r_CV RX6 200 mX6_allowedOf 1 := ⟨cm_X6_allowedOf, pw_w1093, pw_w1095, pw_w35⟩
theorem cm_X6_neverNow : r_CM mX6_neverNow 0 := ⟨pw_w1104, pw_w73, by decide +kernel, ⟨by decide +kernel, by decide +kernel⟩, by decide +kernel, by decide⟩
theorem ml_X6_203 : r_CV RX6 203 mX6_neverNow 0 := ⟨cm_X6_neverNow, pw_w1101, pw_w1103, pw_w36⟩
theorem cm_X6_alikeNow : r_CM mX6_alikeNow 0 := ⟨pw_w1112, pw_w73, by decide +kernel, ⟨by decide +kernel, by decide +kernel⟩, by decide +kernel, by decide⟩
theorem ml_X6_206 : r_CV RX6 206 mX6_alikeNow 0 := ⟨cm_X6_alikeNow, pw_w1109, pw_w1111, pw_w37⟩
theorem cm_X6_crossingOf : r_CM mX6_crossingOf 1 := ⟨pw_w1120, pw_w73, by decide +kernel, ⟨by decide +kernel, by decide +kernel⟩, by decide +kernel, by decide⟩
theorem ml_X6_209 : r_CV RX6 209 mX6_crossingOf 1 := ⟨cm_X6_crossingOf, pw_w1117, pw_w1119, pw_w38⟩
theorem cm_X6_finedOn : r_CM mX6_finedOn 2 := ⟨pw_w1132, pw_w73, by decide +kernel, ⟨by decide +kernel, by decide +kernel⟩, by decide +kernel, by decide⟩
theorem ml_X6_212 : r_CV RX6 212 mX6_finedOn 2 := ⟨cm_X6_finedOn, pw_w1129, pw_w1131, pw_w40⟩
theorem cm_X6_finedOf : r_CM mX6_finedOf 1 := ⟨pw_w1128, pw_w73, by decide +kernel, ⟨by decide +kernel, by decide +kernel⟩, by decide +kernel, by decide⟩
theorem ml_X6_215 : r_CV RX6 215 mX6_finedOf 1 := ⟨cm_X6_finedOf, pw_w1125, pw_w1127, pw_w39⟩
theorem cm_X6_coinsOf : r_CM mX6_coinsOf 1 := ⟨pw_w1140, pw_w73, by decide +kernel, ⟨by decide +kernel, by decide +kernel⟩, by decide +kernel, by decide⟩
theorem ml_X6_218 : r_CV RX6 218 mX6_coinsOf 1 := ⟨cm_X6_coinsOf, pw_w1137, pw_w1139, pw_w41⟩
theorem cm_X6_firstFor : r_CM mX6_firstFor 3 := ⟨pw_w1152, pw_w73, by decide +kernel, ⟨by decide +kernel, by decide +kernel⟩, by decide +kernel, by decide⟩
theorem ml_X6_221 : r_CV RX6 221 mX6_firstFor 3 := ⟨cm_X6_firstFor, pw_w1149, pw_w1151, pw_w43⟩
theorem cm_X6_soonestOf : r_CM mX6_soonestOf 3 := ⟨pw_w1148, pw_w73, by decide +kernel, ⟨by decide +kernel, by decide +kernel⟩, by decide +kernel, by decide⟩
theorem ml_X6_225 : r_CV RX6 225 mX6_soonestOf 3 := ⟨cm_X6_soonestOf, pw_w1145, pw_w1147, pw_w42⟩
theorem cm_X6_cheapestOf : r_CM mX6_cheapestOf 4 := ⟨pw_w1160, pw_w73, by decide +kernel, ⟨by decide +kernel, by decide +kernel⟩, by decide +kernel, by decide⟩
theorem ml_X6_228 : r_CV RX6 228 mX6_cheapestOf 4 := ⟨cm_X6_cheapestOf, pw_w1157, pw_w1159, pw_w44⟩
theorem fl_X6_64 : r_FL RX6 64 6 26 := ⟨RX6, TX6, 42, rfl, by decide, pw_w852, pw_uX6⟩
theorem fl_X6_61 : r_FL RX6 61 6 25 := ⟨RX6, TX6, 42, rfl, by decide, pw_w851, pw_uX6⟩
theorem cm_X6_finishBy : r_CM mX6_finishBy 1 := ⟨pw_w1172, pw_w73, by decide +kernel, ⟨by decide +kernel, by decide +kernel⟩, by decide +kernel, by decide⟩
theorem ml_X6_232 : r_CV RX6 232 mX6_finishBy 1 := ⟨cm_X6_finishBy, pw_w1169, pw_w1171, pw_w46⟩
theorem cm_X6_finishOf : r_CM mX6_finishOf 2 := ⟨pw_w1168, pw_w73, by decide +kernel, ⟨by decide +kernel, by decide +kernel⟩, by decide +kernel, by decide⟩
theorem ml_X6_235 : r_CV RX6 235 mX6_finishOf 2 := ⟨cm_X6_finishOf, pw_w1165, pw_w1167, pw_w45⟩
theorem fl_X6_67 : r_FL RX6 67 6 27 := ⟨RX6, TX6, 42, rfl, by decide, pw_w853, pw_uX6⟩
theorem cm_X6_planBy : r_CM mX6_planBy 1 := ⟨pw_w1184, pw_w73, by decide +kernel, ⟨by decide +kernel, by decide +kernel⟩, by decide +kernel, by decide⟩
theorem ml_X6_238 : r_CV RX6 238 mX6_planBy 1 := ⟨cm_X6_planBy, pw_w1181, pw_w1183, pw_w48⟩
theorem cm_X6_planOf : r_CM mX6_planOf 2 := ⟨pw_w1180, pw_w73, by decide +kernel, ⟨by decide +kernel, by decide +kernel⟩, by decide +kernel, by decide⟩
theorem ml_X6_241 : r_CV RX6 241 mX6_planOf 2 := ⟨cm_X6_planOf, pw_w1177, pw_w1179, pw_w47⟩
theorem cm_X6_isWord : r_CM mX6_isWord 2 := ⟨pw_w1200, pw_w73, by decide +kernel, ⟨by decide +kernel, by decide +kernel⟩, by decide +kernel, by decide⟩
theorem ml_X6_244 : r_CV RX6 244 mX6_isWord 2 := ⟨cm_X6_isWord, pw_w1197, pw_w1199, pw_w51⟩
theorem fl_X6_70 : r_FL RX6 70 6 28 := ⟨RX6, TX6, 42, rfl, by decide, pw_w854, pw_uX6⟩
theorem cm_X6_ones : r_CM mX6_ones 1 := ⟨pw_w1203, pw_w73, by decide +kernel, ⟨by decide +kernel, by decide +kernel⟩, by decide +kernel, by decide⟩
theorem ml_X6_247 : r_CS RX6 247 mX6_ones 1 := ⟨cm_X6_ones, pw_w1201, pw_w1202⟩
theorem cm_X6_laysOuts : r_CM mX6_laysOuts 3 := ⟨pw_w1196, pw_w73, by decide +kernel, ⟨by decide +kernel, by decide +kernel⟩, by decide +kernel, by decide⟩
theorem ml_X6_250 : r_CV RX6 250 mX6_laysOuts 3 := ⟨cm_X6_laysOuts, pw_w1193, pw_w1195, pw_w50⟩
theorem cm_X6_bestOut : r_CM mX6_bestOut 2 := ⟨pw_w1207, pw_w73, by decide +kernel, ⟨by decide +kernel, by decide +kernel⟩, by decide +kernel, by decide⟩
theorem ml_X6_254 : r_CV RX6 254 mX6_bestOut 2 := ⟨cm_X6_bestOut, pw_w1204, pw_w1206, pw_w52⟩
theorem cm_X6_wordsOf : r_CM mX6_wordsOf 3 := ⟨pw_w1192, pw_w73, by decide +kernel, ⟨by decide +kernel, by decide +kernel⟩, by decide +kernel, by decide⟩
theorem ml_X6_257 : r_CV RX6 257 mX6_wordsOf 3 := ⟨cm_X6_wordsOf, pw_w1189, pw_w1191, pw_w49⟩
theorem fl_X6_260 : r_FL RX6 260 6 29 := ⟨RX6, TX6, 42, rfl, by decide, pw_w855, pw_uX6⟩
theorem fp_X6_260 : r_FP RX6 260 6 29 .int := ⟨RX6, TX6, 42, tyX6, rfl, by decide, pw_w855, pw_uX6, tyX6_ok, nmX6, rfl, by decide +kernel⟩
theorem fl_X6_73 : r_FL RX6 73 6 30 := ⟨RX6, TX6, 42, rfl, by decide, pw_w856, pw_uX6⟩
theorem fl_X6_76 : r_FL RX6 76 6 31 := ⟨RX6, TX6, 42, rfl, by decide, pw_w857, pw_uX6⟩
theorem fl_X6_263 : r_FL RX6 263 6 32 := ⟨RX6, TX6, 42, rfl, by decide, pw_w858, pw_uX6⟩
theorem fp_X6_263 : r_FP RX6 263 6 32 .int := ⟨RX6, TX6, 42, tyX6, rfl, by decide, pw_w858, pw_uX6, tyX6_ok, nmX6, rfl, by decide +kernel⟩
theorem fl_X6_79 : r_FL RX6 79 6 33 := ⟨RX6, TX6, 42, rfl, by decide, pw_w859, pw_uX6⟩
theorem fl_X6_82 : r_FL RX6 82 6 34 := ⟨RX6, TX6, 42, rfl, by decide, pw_w860, pw_uX6⟩
theorem fl_X6_85 : r_FL RX6 85 6 35 := ⟨RX6, TX6, 42, rfl, by decide, pw_w861, pw_uX6⟩
theorem cm_X6_isSo : r_CM mX6_isSo 3 := ⟨pw_w1235, pw_w73, by decide +kernel, ⟨by decide +kernel, by decide +kernel⟩, by decide +kernel, by decide⟩
theorem ml_X6_266 : r_CV RX6 266 mX6_isSo 3 := ⟨cm_X6_isSo, pw_w1232, pw_w1234, pw_w55⟩
theorem cm_X6_isWhen : r_CM mX6_isWhen 1 := ⟨pw_w1231, pw_w73, by decide +kernel, ⟨by decide +kernel, by decide +kernel⟩, by decide +kernel, by decide⟩
theorem ml_X6_269 : r_CV RX6 269 mX6_isWhen 1 := ⟨cm_X6_isWhen, pw_w1228, pw_w1230, pw_w54⟩
theorem cm_X6_whenOf : r_CM mX6_whenOf 1 := ⟨pw_w1227, pw_w73, by decide +kernel, ⟨by decide +kernel, by decide +kernel⟩, by decide +kernel, by decide⟩
theorem ml_X6_272 : r_CV RX6 272 mX6_whenOf 1 := ⟨cm_X6_whenOf, pw_w1224, pw_w1226, pw_w53⟩
theorem cm_X6_askNow : r_CM mX6_askNow 0 := ⟨pw_w1243, pw_w73, by decide +kernel, ⟨by decide +kernel, by decide +kernel⟩, by decide +kernel, by decide⟩
theorem ml_X6_275 : r_CV RX6 275 mX6_askNow 0 := ⟨cm_X6_askNow, pw_w1240, pw_w1242, pw_w56⟩
theorem cm_X6_forgedNow : r_CM mX6_forgedNow 0 := ⟨pw_w1251, pw_w73, by decide +kernel, ⟨by decide +kernel, by decide +kernel⟩, by decide +kernel, by decide⟩
theorem ml_X6_278 : r_CV RX6 278 mX6_forgedNow 0 := ⟨cm_X6_forgedNow, pw_w1248, pw_w1250, pw_w57⟩
theorem cm_X6_chanceOn : r_CM mX6_chanceOn 3 := ⟨pw_w1263, pw_w73, by decide +kernel, ⟨by decide +kernel, by decide +kernel⟩, by decide +kernel, by decide⟩
theorem ml_X6_281 : r_CV RX6 281 mX6_chanceOn 3 := ⟨cm_X6_chanceOn, pw_w1260, pw_w1262, pw_w59⟩
theorem cm_X6_lowest : r_CM mX6_lowest 3 := ⟨pw_w1267, pw_w73, by decide +kernel, ⟨by decide +kernel, by decide +kernel⟩, by decide +kernel, by decide⟩
theorem ml_X6_286 : r_CS RX6 286 mX6_lowest 3 := ⟨cm_X6_lowest, pw_w1265, pw_w1266⟩
theorem cm_X6_chanceOf : r_CM mX6_chanceOf 5 := ⟨pw_w1259, pw_w73, by decide +kernel, ⟨by decide +kernel, by decide +kernel⟩, by decide +kernel, by decide⟩
theorem ml_X6_290 : r_CV RX6 290 mX6_chanceOf 5 := ⟨cm_X6_chanceOf, pw_w1256, pw_w1258, pw_w58⟩
theorem cm_X6_no : r_CM mX6_no 1 := ⟨pw_w1270, pw_w73, by decide +kernel, ⟨by decide +kernel, by decide +kernel⟩, by decide +kernel, by decide⟩
theorem ml_X6_294 : r_CS RX6 294 mX6_no 1 := ⟨cm_X6_no, pw_w1268, pw_w1269⟩
theorem cm_X6_yearOf : r_CM mX6_yearOf 3 := ⟨pw_w1279, pw_w73, by decide +kernel, ⟨by decide +kernel, by decide +kernel⟩, by decide +kernel, by decide⟩
theorem ml_X6_299 : r_CV RX6 299 mX6_yearOf 3 := ⟨cm_X6_yearOf, pw_w1276, pw_w1278, pw_w60⟩
theorem fl_X6_302 : r_FL RX6 302 6 41 := ⟨RX6, TX6, 42, rfl, by decide, pw_w867, pw_uX6⟩
theorem fp_X6_302 : r_FP RX6 302 6 41 .int := ⟨RX6, TX6, 42, tyX6, rfl, by decide, pw_w867, pw_uX6, tyX6_ok, nmX6, rfl, by decide +kernel⟩
theorem fl_X6_92 : r_FL RX6 92 6 37 := ⟨RX6, TX6, 42, rfl, by decide, pw_w863, pw_uX6⟩
theorem cm_X6_lacks : r_CM mX6_lacks 3 := ⟨pw_w1296, pw_w73, by decide +kernel, ⟨by decide +kernel, by decide +kernel⟩, by decide +kernel, by decide⟩
theorem ml_X6_305 : r_CV RX6 305 mX6_lacks 3 := ⟨cm_X6_lacks, pw_w1293, pw_w1295, pw_w61⟩
theorem cm_X6_keep : r_CM mX6_keep 3 := ⟨pw_w1300, pw_w73, by decide +kernel, ⟨by decide +kernel, by decide +kernel⟩, by decide +kernel, by decide⟩
theorem ml_X6_308 : r_CV RX6 308 mX6_keep 3 := ⟨cm_X6_keep, pw_w1297, pw_w1299, pw_w62⟩
theorem fl_X6_101 : r_FL RX6 101 6 40 := ⟨RX6, TX6, 42, rfl, by decide, pw_w866, pw_uX6⟩
theorem cm_X6_count : r_CM mX6_count 1 := ⟨pw_w1317, pw_w73, by decide +kernel, ⟨by decide +kernel, by decide +kernel⟩, by decide +kernel, by decide⟩
theorem ml_X6_316 : r_CV RX6 316 mX6_count 1 := ⟨cm_X6_count, pw_w1324, pw_w1315, pw_w1316⟩
theorem cm_X6_deedDigest : r_CM mX6_deedDigest 2 := ⟨pw_w1328, pw_w73, by decide +kernel, ⟨by decide +kernel, by decide +kernel⟩, by decide +kernel, by decide⟩
theorem ml_X6_319 : r_CV RX6 319 mX6_deedDigest 2 := ⟨cm_X6_deedDigest, pw_w1325, pw_w1327, pw_w63⟩
theorem cm_X6_dayDigest : r_CM mX6_dayDigest 2 := ⟨pw_w1332, pw_w73, by decide +kernel, ⟨by decide +kernel, by decide +kernel⟩, by decide +kernel, by decide⟩
theorem ml_X6_323 : r_CV RX6 323 mX6_dayDigest 2 := ⟨cm_X6_dayDigest, pw_w1329, pw_w1331, pw_w64⟩
theorem fs_X5_360 : Cond.fieldLink RX5 360 "TwinKings" "DIGEST_DAYS" "[I" ∈ pw_wl := pw_in 796 (by decide +kernel) (by decide +kernel)
end
