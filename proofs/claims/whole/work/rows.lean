section
-- ===== PART A: goes FIRST, ahead of the names: the tables' words, and 'selects' of the private methods out of them =====
/-- a private method of a class that the tables say can be made, by its rows of tables_1 -/
def lw_okq (q : MethodName × Nat) : Prop := (q.1.cls ≠ "java/lang/invoke/MethodHandle" ∧ q.1.cls ≠ "java/lang/invoke/VarHandle") ∧ Cond.instantiable q.1.cls q.2 ∈ tables_1 ∧ Cond.privateMethod q.1 ∈ tables_1 ∧ Cond.instanceMethod q.1 ∈ tables_1
theorem lw_p0 : lw_okq (⟨"CutsOrFast$Net", "spread", "(II)I"⟩, 8) := ⟨⟨by decide +kernel, by decide +kernel⟩, List.mem_of_getElem? (i := 42) (by decide +kernel), List.mem_of_getElem? (i := 270) (by decide +kernel), List.mem_of_getElem? (i := 271) (by decide +kernel)⟩
theorem lw_p1 : lw_okq (⟨"CutsOrFast$Net", "spreadOnce", "(II)I"⟩, 8) := ⟨⟨by decide +kernel, by decide +kernel⟩, List.mem_of_getElem? (i := 42) (by decide +kernel), List.mem_of_getElem? (i := 274) (by decide +kernel), List.mem_of_getElem? (i := 275) (by decide +kernel)⟩
theorem lw_p2 : lw_okq (⟨"CutsOrFast", "isLane", "(I)Z"⟩, 13) := ⟨⟨by decide +kernel, by decide +kernel⟩, List.mem_of_getElem? (i := 17) (by decide +kernel), List.mem_of_getElem? (i := 291) (by decide +kernel), List.mem_of_getElem? (i := 292) (by decide +kernel)⟩
theorem lw_p3 : lw_okq (⟨"CutsOrFast", "hasNet", "()Z"⟩, 13) := ⟨⟨by decide +kernel, by decide +kernel⟩, List.mem_of_getElem? (i := 17) (by decide +kernel), List.mem_of_getElem? (i := 315) (by decide +kernel), List.mem_of_getElem? (i := 316) (by decide +kernel)⟩
theorem lw_p4 : lw_okq (⟨"CutsOrFast", "canBeTaken", "(I)Z"⟩, 13) := ⟨⟨by decide +kernel, by decide +kernel⟩, List.mem_of_getElem? (i := 17) (by decide +kernel), List.mem_of_getElem? (i := 358) (by decide +kernel), List.mem_of_getElem? (i := 359) (by decide +kernel)⟩
theorem lw_p5 : lw_okq (⟨"CutsOrFast$Search", "worthOf", "(IIIII)I"⟩, 5) := ⟨⟨by decide +kernel, by decide +kernel⟩, List.mem_of_getElem? (i := 98) (by decide +kernel), List.mem_of_getElem? (i := 403) (by decide +kernel), List.mem_of_getElem? (i := 404) (by decide +kernel)⟩
theorem lw_p6 : lw_okq (⟨"CutsOrFast$Search", "placeOf", "(IIII)I"⟩, 5) := ⟨⟨by decide +kernel, by decide +kernel⟩, List.mem_of_getElem? (i := 98) (by decide +kernel), List.mem_of_getElem? (i := 414) (by decide +kernel), List.mem_of_getElem? (i := 415) (by decide +kernel)⟩
theorem lw_p7 : lw_okq (⟨"CutsOrFast$Search", "worthByMoves", "(IIIII)I"⟩, 5) := ⟨⟨by decide +kernel, by decide +kernel⟩, List.mem_of_getElem? (i := 98) (by decide +kernel), List.mem_of_getElem? (i := 420) (by decide +kernel), List.mem_of_getElem? (i := 421) (by decide +kernel)⟩
theorem lw_p8 : lw_okq (⟨"CutsOrFast$Sets", "mends", "(IIII)Z"⟩, 2) := ⟨⟨by decide +kernel, by decide +kernel⟩, List.mem_of_getElem? (i := 128) (by decide +kernel), List.mem_of_getElem? (i := 506) (by decide +kernel), List.mem_of_getElem? (i := 507) (by decide +kernel)⟩
theorem lw_p9 : lw_okq (⟨"CutsOrFast", "playerAt", "(I)LCutsOrFast$Player;"⟩, 13) := ⟨⟨by decide +kernel, by decide +kernel⟩, List.mem_of_getElem? (i := 17) (by decide +kernel), List.mem_of_getElem? (i := 603) (by decide +kernel), List.mem_of_getElem? (i := 604) (by decide +kernel)⟩
theorem lw_p10 : lw_okq (⟨"CutsOrFast$Near", "lengthOver", "(LCutsOrFast$Net;I)I"⟩, 2) := ⟨⟨by decide +kernel, by decide +kernel⟩, List.mem_of_getElem? (i := 567) (by decide +kernel), List.mem_of_getElem? (i := 677) (by decide +kernel), List.mem_of_getElem? (i := 678) (by decide +kernel)⟩
theorem lw_p11 : lw_okq (⟨"CutsOrFast", "playOut", "(LCutsOrFast$Player;LCutsOrFast$Player;)I"⟩, 13) := ⟨⟨by decide +kernel, by decide +kernel⟩, List.mem_of_getElem? (i := 17) (by decide +kernel), List.mem_of_getElem? (i := 698) (by decide +kernel), List.mem_of_getElem? (i := 699) (by decide +kernel)⟩
theorem lw_p12 : lw_okq (⟨"CutsOrFastModel", "readNet", "()V"⟩, 47) := ⟨⟨by decide +kernel, by decide +kernel⟩, List.mem_of_getElem? (i := 752) (by decide +kernel), List.mem_of_getElem? (i := 917) (by decide +kernel), List.mem_of_getElem? (i := 918) (by decide +kernel)⟩
theorem lw_p13 : lw_okq (⟨"CutsOrFastModel", "nextState", "(II)I"⟩, 47) := ⟨⟨by decide +kernel, by decide +kernel⟩, List.mem_of_getElem? (i := 752) (by decide +kernel), List.mem_of_getElem? (i := 921) (by decide +kernel), List.mem_of_getElem? (i := 922) (by decide +kernel)⟩
theorem lw_p14 : lw_okq (⟨"CutsOrFastModel", "behindLane", "(II)I"⟩, 47) := ⟨⟨by decide +kernel, by decide +kernel⟩, List.mem_of_getElem? (i := 752) (by decide +kernel), List.mem_of_getElem? (i := 928) (by decide +kernel), List.mem_of_getElem? (i := 929) (by decide +kernel)⟩
theorem lw_p15 : lw_okq (⟨"CutsOrFastModel", "isLaneNumber", "(I)Z"⟩, 47) := ⟨⟨by decide +kernel, by decide +kernel⟩, List.mem_of_getElem? (i := 752) (by decide +kernel), List.mem_of_getElem? (i := 940) (by decide +kernel), List.mem_of_getElem? (i := 941) (by decide +kernel)⟩
def lw_privs_1 : List (MethodName × Nat) := [(⟨"CutsOrFast$Net", "spread", "(II)I"⟩, 8), (⟨"CutsOrFast$Net", "spreadOnce", "(II)I"⟩, 8), (⟨"CutsOrFast", "isLane", "(I)Z"⟩, 13), (⟨"CutsOrFast", "hasNet", "()Z"⟩, 13), (⟨"CutsOrFast", "canBeTaken", "(I)Z"⟩, 13), (⟨"CutsOrFast$Search", "worthOf", "(IIIII)I"⟩, 5), (⟨"CutsOrFast$Search", "placeOf", "(IIII)I"⟩, 5), (⟨"CutsOrFast$Search", "worthByMoves", "(IIIII)I"⟩, 5), (⟨"CutsOrFast$Sets", "mends", "(IIII)Z"⟩, 2), (⟨"CutsOrFast", "playerAt", "(I)LCutsOrFast$Player;"⟩, 13), (⟨"CutsOrFast$Near", "lengthOver", "(LCutsOrFast$Net;I)I"⟩, 2), (⟨"CutsOrFast", "playOut", "(LCutsOrFast$Player;LCutsOrFast$Player;)I"⟩, 13), (⟨"CutsOrFastModel", "readNet", "()V"⟩, 47), (⟨"CutsOrFastModel", "nextState", "(II)I"⟩, 47), (⟨"CutsOrFastModel", "behindLane", "(II)I"⟩, 47), (⟨"CutsOrFastModel", "isLaneNumber", "(I)Z"⟩, 47)]
theorem lw_r1 : ∀ q ∈ lw_privs_1, lw_okq q := List.forall_mem_cons.mpr ⟨lw_p0, List.forall_mem_cons.mpr ⟨lw_p1, List.forall_mem_cons.mpr ⟨lw_p2, List.forall_mem_cons.mpr ⟨lw_p3, List.forall_mem_cons.mpr ⟨lw_p4, List.forall_mem_cons.mpr ⟨lw_p5, List.forall_mem_cons.mpr ⟨lw_p6, List.forall_mem_cons.mpr ⟨lw_p7, List.forall_mem_cons.mpr ⟨lw_p8, List.forall_mem_cons.mpr ⟨lw_p9, List.forall_mem_cons.mpr ⟨lw_p10, List.forall_mem_cons.mpr ⟨lw_p11, List.forall_mem_cons.mpr ⟨lw_p12, List.forall_mem_cons.mpr ⟨lw_p13, List.forall_mem_cons.mpr ⟨lw_p14, List.forall_mem_cons.mpr ⟨lw_p15, fun _ h => absurd h List.not_mem_nil⟩⟩⟩⟩⟩⟩⟩⟩⟩⟩⟩⟩⟩⟩⟩⟩
theorem lw_p16 : lw_okq (⟨"CutsOrFastModel", "laneNow", "(II)I"⟩, 47) := ⟨⟨by decide +kernel, by decide +kernel⟩, List.mem_of_getElem? (i := 752) (by decide +kernel), List.mem_of_getElem? (i := 944) (by decide +kernel), List.mem_of_getElem? (i := 945) (by decide +kernel)⟩
theorem lw_p17 : lw_okq (⟨"CutsOrFastModel", "statusNow", "()I"⟩, 47) := ⟨⟨by decide +kernel, by decide +kernel⟩, List.mem_of_getElem? (i := 752) (by decide +kernel), List.mem_of_getElem? (i := 952) (by decide +kernel), List.mem_of_getElem? (i := 953) (by decide +kernel)⟩
theorem lw_p18 : lw_okq (⟨"CutsOrFastModel", "setOf", "(I)I"⟩, 47) := ⟨⟨by decide +kernel, by decide +kernel⟩, List.mem_of_getElem? (i := 752) (by decide +kernel), List.mem_of_getElem? (i := 956) (by decide +kernel), List.mem_of_getElem? (i := 957) (by decide +kernel)⟩
theorem lw_p19 : lw_okq (⟨"CutsOrFastModel", "joins", "(II)Z"⟩, 47) := ⟨⟨by decide +kernel, by decide +kernel⟩, List.mem_of_getElem? (i := 752) (by decide +kernel), List.mem_of_getElem? (i := 960) (by decide +kernel), List.mem_of_getElem? (i := 961) (by decide +kernel)⟩
theorem lw_p20 : lw_okq (⟨"CutsOrFastModel", "reached", "(III)I"⟩, 47) := ⟨⟨by decide +kernel, by decide +kernel⟩, List.mem_of_getElem? (i := 752) (by decide +kernel), List.mem_of_getElem? (i := 964) (by decide +kernel), List.mem_of_getElem? (i := 965) (by decide +kernel)⟩
theorem lw_p21 : lw_okq (⟨"CutsOrFastModel", "laySolved", "(I)V"⟩, 47) := ⟨⟨by decide +kernel, by decide +kernel⟩, List.mem_of_getElem? (i := 752) (by decide +kernel), List.mem_of_getElem? (i := 978) (by decide +kernel), List.mem_of_getElem? (i := 979) (by decide +kernel)⟩
theorem lw_p22 : lw_okq (⟨"CutsOrFastModel", "layOpens", "(I)V"⟩, 47) := ⟨⟨by decide +kernel, by decide +kernel⟩, List.mem_of_getElem? (i := 752) (by decide +kernel), List.mem_of_getElem? (i := 982) (by decide +kernel), List.mem_of_getElem? (i := 983) (by decide +kernel)⟩
theorem lw_p23 : lw_okq (⟨"CutsOrFastModel", "readCode", "(I)V"⟩, 47) := ⟨⟨by decide +kernel, by decide +kernel⟩, List.mem_of_getElem? (i := 752) (by decide +kernel), List.mem_of_getElem? (i := 986) (by decide +kernel), List.mem_of_getElem? (i := 987) (by decide +kernel)⟩
theorem lw_p24 : lw_okq (⟨"CutsOrFastModel", "hasBy", "(II)Z"⟩, 47) := ⟨⟨by decide +kernel, by decide +kernel⟩, List.mem_of_getElem? (i := 752) (by decide +kernel), List.mem_of_getElem? (i := 990) (by decide +kernel), List.mem_of_getElem? (i := 991) (by decide +kernel)⟩
theorem lw_p25 : lw_okq (⟨"CutsOrFastModel", "byNow", "(I)I"⟩, 47) := ⟨⟨by decide +kernel, by decide +kernel⟩, List.mem_of_getElem? (i := 752) (by decide +kernel), List.mem_of_getElem? (i := 1001) (by decide +kernel), List.mem_of_getElem? (i := 1002) (by decide +kernel)⟩
theorem lw_p26 : lw_okq (⟨"CutsOrFastModel", "byFrom", "(II)I"⟩, 47) := ⟨⟨by decide +kernel, by decide +kernel⟩, List.mem_of_getElem? (i := 752) (by decide +kernel), List.mem_of_getElem? (i := 1005) (by decide +kernel), List.mem_of_getElem? (i := 1006) (by decide +kernel)⟩
theorem lw_p27 : lw_okq (⟨"CutsOrFastModel", "lostNow", "()I"⟩, 47) := ⟨⟨by decide +kernel, by decide +kernel⟩, List.mem_of_getElem? (i := 752) (by decide +kernel), List.mem_of_getElem? (i := 1029) (by decide +kernel), List.mem_of_getElem? (i := 1030) (by decide +kernel)⟩
theorem lw_p28 : lw_okq (⟨"CutsOrFastModel", "placeOf", "(I)I"⟩, 47) := ⟨⟨by decide +kernel, by decide +kernel⟩, List.mem_of_getElem? (i := 752) (by decide +kernel), List.mem_of_getElem? (i := 1033) (by decide +kernel), List.mem_of_getElem? (i := 1034) (by decide +kernel)⟩
theorem lw_p29 : lw_okq (⟨"CutsOrFastModel", "waysNow", "()I"⟩, 47) := ⟨⟨by decide +kernel, by decide +kernel⟩, List.mem_of_getElem? (i := 752) (by decide +kernel), List.mem_of_getElem? (i := 1041) (by decide +kernel), List.mem_of_getElem? (i := 1042) (by decide +kernel)⟩
theorem lw_p30 : lw_okq (⟨"CutsOrFastModel", "partingNow", "(I)I"⟩, 47) := ⟨⟨by decide +kernel, by decide +kernel⟩, List.mem_of_getElem? (i := 752) (by decide +kernel), List.mem_of_getElem? (i := 1049) (by decide +kernel), List.mem_of_getElem? (i := 1050) (by decide +kernel)⟩
theorem lw_p31 : lw_okq (⟨"CutsOrFastModel", "mendNow", "(I)I"⟩, 47) := ⟨⟨by decide +kernel, by decide +kernel⟩, List.mem_of_getElem? (i := 752) (by decide +kernel), List.mem_of_getElem? (i := 1060) (by decide +kernel), List.mem_of_getElem? (i := 1061) (by decide +kernel)⟩
def lw_privs_2 : List (MethodName × Nat) := [(⟨"CutsOrFastModel", "laneNow", "(II)I"⟩, 47), (⟨"CutsOrFastModel", "statusNow", "()I"⟩, 47), (⟨"CutsOrFastModel", "setOf", "(I)I"⟩, 47), (⟨"CutsOrFastModel", "joins", "(II)Z"⟩, 47), (⟨"CutsOrFastModel", "reached", "(III)I"⟩, 47), (⟨"CutsOrFastModel", "laySolved", "(I)V"⟩, 47), (⟨"CutsOrFastModel", "layOpens", "(I)V"⟩, 47), (⟨"CutsOrFastModel", "readCode", "(I)V"⟩, 47), (⟨"CutsOrFastModel", "hasBy", "(II)Z"⟩, 47), (⟨"CutsOrFastModel", "byNow", "(I)I"⟩, 47), (⟨"CutsOrFastModel", "byFrom", "(II)I"⟩, 47), (⟨"CutsOrFastModel", "lostNow", "()I"⟩, 47), (⟨"CutsOrFastModel", "placeOf", "(I)I"⟩, 47), (⟨"CutsOrFastModel", "waysNow", "()I"⟩, 47), (⟨"CutsOrFastModel", "partingNow", "(I)I"⟩, 47), (⟨"CutsOrFastModel", "mendNow", "(I)I"⟩, 47)]
theorem lw_r2 : ∀ q ∈ lw_privs_2, lw_okq q := List.forall_mem_cons.mpr ⟨lw_p16, List.forall_mem_cons.mpr ⟨lw_p17, List.forall_mem_cons.mpr ⟨lw_p18, List.forall_mem_cons.mpr ⟨lw_p19, List.forall_mem_cons.mpr ⟨lw_p20, List.forall_mem_cons.mpr ⟨lw_p21, List.forall_mem_cons.mpr ⟨lw_p22, List.forall_mem_cons.mpr ⟨lw_p23, List.forall_mem_cons.mpr ⟨lw_p24, List.forall_mem_cons.mpr ⟨lw_p25, List.forall_mem_cons.mpr ⟨lw_p26, List.forall_mem_cons.mpr ⟨lw_p27, List.forall_mem_cons.mpr ⟨lw_p28, List.forall_mem_cons.mpr ⟨lw_p29, List.forall_mem_cons.mpr ⟨lw_p30, List.forall_mem_cons.mpr ⟨lw_p31, fun _ h => absurd h List.not_mem_nil⟩⟩⟩⟩⟩⟩⟩⟩⟩⟩⟩⟩⟩⟩⟩⟩
theorem lw_p32 : lw_okq (⟨"CutsOrFastModel", "isMendedBy", "(II)Z"⟩, 47) := ⟨⟨by decide +kernel, by decide +kernel⟩, List.mem_of_getElem? (i := 752) (by decide +kernel), List.mem_of_getElem? (i := 1064) (by decide +kernel), List.mem_of_getElem? (i := 1065) (by decide +kernel)⟩
theorem lw_p33 : lw_okq (⟨"CutsOrFastModel", "boughtNow", "(I)I"⟩, 47) := ⟨⟨by decide +kernel, by decide +kernel⟩, List.mem_of_getElem? (i := 752) (by decide +kernel), List.mem_of_getElem? (i := 1072) (by decide +kernel), List.mem_of_getElem? (i := 1073) (by decide +kernel)⟩
theorem lw_p34 : lw_okq (⟨"CutsOrFastModel", "likelyNow", "(II)I"⟩, 47) := ⟨⟨by decide +kernel, by decide +kernel⟩, List.mem_of_getElem? (i := 752) (by decide +kernel), List.mem_of_getElem? (i := 1081) (by decide +kernel), List.mem_of_getElem? (i := 1082) (by decide +kernel)⟩
theorem lw_p35 : lw_okq (⟨"CutsOrFastModel", "layWholes", "(I)V"⟩, 47) := ⟨⟨by decide +kernel, by decide +kernel⟩, List.mem_of_getElem? (i := 752) (by decide +kernel), List.mem_of_getElem? (i := 1085) (by decide +kernel), List.mem_of_getElem? (i := 1086) (by decide +kernel)⟩
theorem lw_p36 : lw_okq (⟨"CutsOrFastModel", "chanceBy", "(III)I"⟩, 47) := ⟨⟨by decide +kernel, by decide +kernel⟩, List.mem_of_getElem? (i := 752) (by decide +kernel), List.mem_of_getElem? (i := 1092) (by decide +kernel), List.mem_of_getElem? (i := 1093) (by decide +kernel)⟩
theorem lw_p37 : lw_okq (⟨"CutsOrFastModel", "isPlayer", "(I)Z"⟩, 47) := ⟨⟨by decide +kernel, by decide +kernel⟩, List.mem_of_getElem? (i := 752) (by decide +kernel), List.mem_of_getElem? (i := 1108) (by decide +kernel), List.mem_of_getElem? (i := 1109) (by decide +kernel)⟩
theorem lw_p38 : lw_okq (⟨"CutsOrFastModel", "takes", "(II)I"⟩, 47) := ⟨⟨by decide +kernel, by decide +kernel⟩, List.mem_of_getElem? (i := 752) (by decide +kernel), List.mem_of_getElem? (i := 1116) (by decide +kernel), List.mem_of_getElem? (i := 1117) (by decide +kernel)⟩
theorem lw_p39 : lw_okq (⟨"CutsOrFastModel", "nthOpen", "(I)I"⟩, 47) := ⟨⟨by decide +kernel, by decide +kernel⟩, List.mem_of_getElem? (i := 752) (by decide +kernel), List.mem_of_getElem? (i := 1120) (by decide +kernel), List.mem_of_getElem? (i := 1121) (by decide +kernel)⟩
theorem lw_p40 : lw_okq (⟨"CutsOrFastModel", "nearest", "(Z)I"⟩, 47) := ⟨⟨by decide +kernel, by decide +kernel⟩, List.mem_of_getElem? (i := 752) (by decide +kernel), List.mem_of_getElem? (i := 1124) (by decide +kernel), List.mem_of_getElem? (i := 1125) (by decide +kernel)⟩
theorem lw_p41 : lw_okq (⟨"CutsOrFastModel", "layFar", "()V"⟩, 47) := ⟨⟨by decide +kernel, by decide +kernel⟩, List.mem_of_getElem? (i := 752) (by decide +kernel), List.mem_of_getElem? (i := 1128) (by decide +kernel), List.mem_of_getElem? (i := 1129) (by decide +kernel)⟩
theorem lw_p42 : lw_okq (⟨"CutsOrFastModel", "isNear", "(I)Z"⟩, 47) := ⟨⟨by decide +kernel, by decide +kernel⟩, List.mem_of_getElem? (i := 752) (by decide +kernel), List.mem_of_getElem? (i := 1132) (by decide +kernel), List.mem_of_getElem? (i := 1133) (by decide +kernel)⟩
theorem lw_p43 : lw_okq (⟨"CutsOrFastModel", "openMany", "()I"⟩, 47) := ⟨⟨by decide +kernel, by decide +kernel⟩, List.mem_of_getElem? (i := 752) (by decide +kernel), List.mem_of_getElem? (i := 1136) (by decide +kernel), List.mem_of_getElem? (i := 1137) (by decide +kernel)⟩
theorem lw_p44 : lw_okq (⟨"CutsOrFastModel", "draw", "(I)I"⟩, 47) := ⟨⟨by decide +kernel, by decide +kernel⟩, List.mem_of_getElem? (i := 752) (by decide +kernel), List.mem_of_getElem? (i := 1140) (by decide +kernel), List.mem_of_getElem? (i := 1141) (by decide +kernel)⟩
theorem lw_p45 : lw_okq (⟨"CutsOrFastModel", "playOut", "(III)I"⟩, 47) := ⟨⟨by decide +kernel, by decide +kernel⟩, List.mem_of_getElem? (i := 752) (by decide +kernel), List.mem_of_getElem? (i := 1152) (by decide +kernel), List.mem_of_getElem? (i := 1153) (by decide +kernel)⟩
theorem lw_p46 : lw_okq (⟨"CutsOrFastModel", "howMany", "(I)I"⟩, 47) := ⟨⟨by decide +kernel, by decide +kernel⟩, List.mem_of_getElem? (i := 752) (by decide +kernel), List.mem_of_getElem? (i := 1168) (by decide +kernel), List.mem_of_getElem? (i := 1169) (by decide +kernel)⟩
theorem lw_p47 : lw_okq (⟨"CutsOrFastModel", "mix", "(J)V"⟩, 47) := ⟨⟨by decide +kernel, by decide +kernel⟩, List.mem_of_getElem? (i := 752) (by decide +kernel), List.mem_of_getElem? (i := 1177) (by decide +kernel), List.mem_of_getElem? (i := 1178) (by decide +kernel)⟩
def lw_privs_3 : List (MethodName × Nat) := [(⟨"CutsOrFastModel", "isMendedBy", "(II)Z"⟩, 47), (⟨"CutsOrFastModel", "boughtNow", "(I)I"⟩, 47), (⟨"CutsOrFastModel", "likelyNow", "(II)I"⟩, 47), (⟨"CutsOrFastModel", "layWholes", "(I)V"⟩, 47), (⟨"CutsOrFastModel", "chanceBy", "(III)I"⟩, 47), (⟨"CutsOrFastModel", "isPlayer", "(I)Z"⟩, 47), (⟨"CutsOrFastModel", "takes", "(II)I"⟩, 47), (⟨"CutsOrFastModel", "nthOpen", "(I)I"⟩, 47), (⟨"CutsOrFastModel", "nearest", "(Z)I"⟩, 47), (⟨"CutsOrFastModel", "layFar", "()V"⟩, 47), (⟨"CutsOrFastModel", "isNear", "(I)Z"⟩, 47), (⟨"CutsOrFastModel", "openMany", "()I"⟩, 47), (⟨"CutsOrFastModel", "draw", "(I)I"⟩, 47), (⟨"CutsOrFastModel", "playOut", "(III)I"⟩, 47), (⟨"CutsOrFastModel", "howMany", "(I)I"⟩, 47), (⟨"CutsOrFastModel", "mix", "(J)V"⟩, 47)]
theorem lw_r3 : ∀ q ∈ lw_privs_3, lw_okq q := List.forall_mem_cons.mpr ⟨lw_p32, List.forall_mem_cons.mpr ⟨lw_p33, List.forall_mem_cons.mpr ⟨lw_p34, List.forall_mem_cons.mpr ⟨lw_p35, List.forall_mem_cons.mpr ⟨lw_p36, List.forall_mem_cons.mpr ⟨lw_p37, List.forall_mem_cons.mpr ⟨lw_p38, List.forall_mem_cons.mpr ⟨lw_p39, List.forall_mem_cons.mpr ⟨lw_p40, List.forall_mem_cons.mpr ⟨lw_p41, List.forall_mem_cons.mpr ⟨lw_p42, List.forall_mem_cons.mpr ⟨lw_p43, List.forall_mem_cons.mpr ⟨lw_p44, List.forall_mem_cons.mpr ⟨lw_p45, List.forall_mem_cons.mpr ⟨lw_p46, List.forall_mem_cons.mpr ⟨lw_p47, fun _ h => absurd h List.not_mem_nil⟩⟩⟩⟩⟩⟩⟩⟩⟩⟩⟩⟩⟩⟩⟩⟩
theorem lw_p48 : lw_okq (⟨"CutsOrFastModel", "mixNet", "()V"⟩, 47) := ⟨⟨by decide +kernel, by decide +kernel⟩, List.mem_of_getElem? (i := 752) (by decide +kernel), List.mem_of_getElem? (i := 1182) (by decide +kernel), List.mem_of_getElem? (i := 1183) (by decide +kernel)⟩
def lw_privs_4 : List (MethodName × Nat) := [(⟨"CutsOrFastModel", "mixNet", "()V"⟩, 47)]
theorem lw_r4 : ∀ q ∈ lw_privs_4, lw_okq q := List.forall_mem_cons.mpr ⟨lw_p48, fun _ h => absurd h List.not_mem_nil⟩
def lw_privs : List (MethodName × Nat) := lw_privs_1 ++ (lw_privs_2 ++ (lw_privs_3 ++ (lw_privs_4)))
def lw_tbl : List Cond := k2_sels lw_privs ++ tables_1
theorem lw_privs_ok : ∀ q ∈ lw_privs, lw_okq q := by
  show ∀ q ∈ lw_privs_1 ++ (lw_privs_2 ++ (lw_privs_3 ++ (lw_privs_4))), lw_okq q
  exact List.forall_mem_append.mpr ⟨lw_r1, List.forall_mem_append.mpr ⟨lw_r2, List.forall_mem_append.mpr ⟨lw_r3, lw_r4⟩⟩⟩

/-! names: classes, fields, types -/
def RX0 : String := "CutsOrFast$Best"
def TX0 : u_T := fun k => match k with
  | _ => ("", "", "", false)
def tyX0 : Nat → FieldType := fun k => match k with
  | _ => .int
theorem nmX0 : ∀ a, a < 0 → ∀ b, b < 0 → a ≠ b → (TX0 a).2.1 ≠ (TX0 b).2.1 := by decide +kernel
theorem tyX0_ok : ∀ k, k < 0 → parseFieldDescriptor (TX0 k).2.2.1 = some (tyX0 k) := by decide +kernel
def RX1 : String := "CutsOrFast$Chance"
def TX1 : u_T := fun k => match k with
  | _ => ("", "", "", false)
def tyX1 : Nat → FieldType := fun k => match k with
  | _ => .int
theorem nmX1 : ∀ a, a < 0 → ∀ b, b < 0 → a ≠ b → (TX1 a).2.1 ≠ (TX1 b).2.1 := by decide +kernel
theorem tyX1_ok : ∀ k, k < 0 → parseFieldDescriptor (TX1 k).2.2.1 = some (tyX1 k) := by decide +kernel
def RX2 : String := "CutsOrFast$Dear"
def TX2 : u_T := fun k => match k with
  | 0 => ("CutsOrFast$Near", "fromOne", "[I", true)
  | _ => ("CutsOrFast$Near", "fromOther", "[I", true)
def tyX2 : Nat → FieldType := fun k => match k with
  | 0 => .array .int
  | _ => .array .int
theorem nmX2 : ∀ a, a < 2 → ∀ b, b < 2 → a ≠ b → (TX2 a).2.1 ≠ (TX2 b).2.1 := by decide +kernel
theorem tyX2_ok : ∀ k, k < 2 → parseFieldDescriptor (TX2 k).2.2.1 = some (tyX2 k) := by decide +kernel
def RX3 : String := "CutsOrFast$Draws"
def TX3 : u_T := fun k => match k with
  | _ => ("CutsOrFast$Draws", "seed", "J", false)
def tyX3 : Nat → FieldType := fun k => match k with
  | _ => .long
theorem nmX3 : ∀ a, a < 1 → ∀ b, b < 1 → a ≠ b → (TX3 a).2.1 ≠ (TX3 b).2.1 := by decide +kernel
theorem tyX3_ok : ∀ k, k < 1 → parseFieldDescriptor (TX3 k).2.2.1 = some (tyX3 k) := by decide +kernel
def RX4 : String := "CutsOrFast$Near"
def TX4 : u_T := fun k => match k with
  | 0 => ("CutsOrFast$Near", "fromOne", "[I", true)
  | _ => ("CutsOrFast$Near", "fromOther", "[I", true)
def tyX4 : Nat → FieldType := fun k => match k with
  | 0 => .array .int
  | _ => .array .int
theorem nmX4 : ∀ a, a < 2 → ∀ b, b < 2 → a ≠ b → (TX4 a).2.1 ≠ (TX4 b).2.1 := by decide +kernel
theorem tyX4_ok : ∀ k, k < 2 → parseFieldDescriptor (TX4 k).2.2.1 = some (tyX4 k) := by decide +kernel
def RX5 : String := "CutsOrFast$Net"
def TX5 : u_T := fun k => match k with
  | 0 => ("CutsOrFast$Net", "first", "[I", true)
  | 1 => ("CutsOrFast$Net", "second", "[I", true)
  | 2 => ("CutsOrFast$Net", "cost", "[I", true)
  | 3 => ("CutsOrFast$Net", "pair", "[I", true)
  | 4 => ("CutsOrFast$Net", "reached", "[I", true)
  | 5 => ("CutsOrFast$Net", "used", "I", false)
  | 6 => ("CutsOrFast$Net", "oneEnd", "I", false)
  | _ => ("CutsOrFast$Net", "otherEnd", "I", false)
def tyX5 : Nat → FieldType := fun k => match k with
  | 0 => .array .int
  | 1 => .array .int
  | 2 => .array .int
  | 3 => .array .int
  | 4 => .array .int
  | 5 => .int
  | 6 => .int
  | _ => .int
theorem nmX5 : ∀ a, a < 8 → ∀ b, b < 8 → a ≠ b → (TX5 a).2.1 ≠ (TX5 b).2.1 := by decide +kernel
theorem tyX5_ok : ∀ k, k < 8 → parseFieldDescriptor (TX5 k).2.2.1 = some (tyX5 k) := by decide +kernel
def RX6 : String := "CutsOrFast$Page"
def TX6 : u_T := fun k => match k with
  | 0 => ("CutsOrFast$Page", "codes", "[I", true)
  | 1 => ("CutsOrFast$Page", "used", "I", false)
  | _ => ("CutsOrFast$Page", "lastStep", "I", false)
def tyX6 : Nat → FieldType := fun k => match k with
  | 0 => .array .int
  | 1 => .int
  | _ => .int
theorem nmX6 : ∀ a, a < 3 → ∀ b, b < 3 → a ≠ b → (TX6 a).2.1 ≠ (TX6 b).2.1 := by decide +kernel
theorem tyX6_ok : ∀ k, k < 3 → parseFieldDescriptor (TX6 k).2.2.1 = some (tyX6 k) := by decide +kernel
def RX7 : String := "CutsOrFast$Player"
def TX7 : u_T := fun k => match k with
  | _ => ("", "", "", false)
def tyX7 : Nat → FieldType := fun k => match k with
  | _ => .int
theorem nmX7 : ∀ a, a < 0 → ∀ b, b < 0 → a ≠ b → (TX7 a).2.1 ≠ (TX7 b).2.1 := by decide +kernel
theorem tyX7_ok : ∀ k, k < 0 → parseFieldDescriptor (TX7 k).2.2.1 = some (tyX7 k) := by decide +kernel
def RX8 : String := "CutsOrFast$Search"
def TX8 : u_T := fun k => match k with
  | 0 => ("CutsOrFast$Search", "net", "LCutsOrFast$Net;", true)
  | 1 => ("CutsOrFast$Search", "threes", "[I", true)
  | 2 => ("CutsOrFast$Search", "known", "[J", true)
  | 3 => ("CutsOrFast$Search", "stamp", "J", false)
  | _ => ("CutsOrFast$Search", "lastStamp", "J", false)
def tyX8 : Nat → FieldType := fun k => match k with
  | 0 => .object "CutsOrFast$Net"
  | 1 => .array .int
  | 2 => .array .long
  | 3 => .long
  | _ => .long
theorem nmX8 : ∀ a, a < 5 → ∀ b, b < 5 → a ≠ b → (TX8 a).2.1 ≠ (TX8 b).2.1 := by decide +kernel
theorem tyX8_ok : ∀ k, k < 5 → parseFieldDescriptor (TX8 k).2.2.1 = some (tyX8 k) := by decide +kernel
def RX9 : String := "CutsOrFast$Sets"
def TX9 : u_T := fun k => match k with
  | 0 => ("CutsOrFast$Sets", "net", "LCutsOrFast$Net;", true)
  | _ => ("CutsOrFast$Sets", "search", "LCutsOrFast$Search;", true)
def tyX9 : Nat → FieldType := fun k => match k with
  | 0 => .object "CutsOrFast$Net"
  | _ => .object "CutsOrFast$Search"
theorem nmX9 : ∀ a, a < 2 → ∀ b, b < 2 → a ≠ b → (TX9 a).2.1 ≠ (TX9 b).2.1 := by decide +kernel
theorem tyX9_ok : ∀ k, k < 2 → parseFieldDescriptor (TX9 k).2.2.1 = some (tyX9 k) := by decide +kernel
def RX10 : String := "CutsOrFast$Stand"
def TX10 : u_T := fun k => match k with
  | 0 => ("CutsOrFast$Stand", "net", "LCutsOrFast$Net;", true)
  | 1 => ("CutsOrFast$Stand", "moves", "[I", true)
  | 2 => ("CutsOrFast$Stand", "made", "I", false)
  | 3 => ("CutsOrFast$Stand", "fast", "I", false)
  | 4 => ("CutsOrFast$Stand", "cut", "I", false)
  | _ => ("CutsOrFast$Stand", "mover", "I", false)
def tyX10 : Nat → FieldType := fun k => match k with
  | 0 => .object "CutsOrFast$Net"
  | 1 => .array .int
  | 2 => .int
  | 3 => .int
  | 4 => .int
  | _ => .int
theorem nmX10 : ∀ a, a < 6 → ∀ b, b < 6 → a ≠ b → (TX10 a).2.1 ≠ (TX10 b).2.1 := by decide +kernel
theorem tyX10_ok : ∀ k, k < 6 → parseFieldDescriptor (TX10 k).2.2.1 = some (tyX10 k) := by decide +kernel
def RX11 : String := "CutsOrFast"
def TX11 : u_T := fun k => match k with
  | 0 => ("CutsOrFast", "page", "LCutsOrFast$Page;", true)
  | 1 => ("CutsOrFast", "lanes", "LCutsOrFast$Net;", true)
  | 2 => ("CutsOrFast", "now", "LCutsOrFast$Stand;", true)
  | 3 => ("CutsOrFast", "kept", "LCutsOrFast$Stand;", true)
  | 4 => ("CutsOrFast", "tried", "LCutsOrFast$Stand;", true)
  | 5 => ("CutsOrFast", "search", "LCutsOrFast$Search;", true)
  | 6 => ("CutsOrFast", "sets", "LCutsOrFast$Sets;", true)
  | 7 => ("CutsOrFast", "draws", "LCutsOrFast$Draws;", true)
  | 8 => ("CutsOrFast", "players", "[LCutsOrFast$Player;", true)
  | 9 => ("CutsOrFast", "playersMade", "I", false)
  | 10 => ("CutsOrFast", "netsRead", "I", false)
  | 11 => ("CutsOrFast", "mendsDone", "I", false)
  | _ => ("CutsOrFast", "imageKept", "Z", false)
def tyX11 : Nat → FieldType := fun k => match k with
  | 0 => .object "CutsOrFast$Page"
  | 1 => .object "CutsOrFast$Net"
  | 2 => .object "CutsOrFast$Stand"
  | 3 => .object "CutsOrFast$Stand"
  | 4 => .object "CutsOrFast$Stand"
  | 5 => .object "CutsOrFast$Search"
  | 6 => .object "CutsOrFast$Sets"
  | 7 => .object "CutsOrFast$Draws"
  | 8 => .array (.object "CutsOrFast$Player")
  | 9 => .int
  | 10 => .int
  | 11 => .int
  | _ => .boolean
theorem nmX11 : ∀ a, a < 13 → ∀ b, b < 13 → a ≠ b → (TX11 a).2.1 ≠ (TX11 b).2.1 := by decide +kernel
theorem tyX11_ok : ∀ k, k < 13 → parseFieldDescriptor (TX11 k).2.2.1 = some (tyX11 k) := by decide +kernel
def RX12 : String := "CutsOrFastModel"
def TX12 : u_T := fun k => match k with
  | 0 => ("CutsOrFastModel", "lanes", "I", false)
  | 1 => ("CutsOrFastModel", "nets", "I", false)
  | 2 => ("CutsOrFastModel", "endOne", "I", false)
  | 3 => ("CutsOrFastModel", "endTwo", "I", false)
  | 4 => ("CutsOrFastModel", "laneA", "[I", true)
  | 5 => ("CutsOrFastModel", "laneB", "[I", true)
  | 6 => ("CutsOrFastModel", "laneIs", "[I", true)
  | 7 => ("CutsOrFastModel", "costOf", "[I", true)
  | 8 => ("CutsOrFastModel", "mover", "I", false)
  | 9 => ("CutsOrFastModel", "moves", "I", false)
  | 10 => ("CutsOrFastModel", "moveLane", "[I", true)
  | 11 => ("CutsOrFastModel", "players", "I", false)
  | 12 => ("CutsOrFastModel", "kindOf", "[I", true)
  | 13 => ("CutsOrFastModel", "asks", "I", false)
  | 14 => ("CutsOrFastModel", "pageLength", "I", false)
  | 15 => ("CutsOrFastModel", "page", "[B", true)
  | 16 => ("CutsOrFastModel", "isKept", "Z", false)
  | 17 => ("CutsOrFastModel", "keptNet", "I", false)
  | 18 => ("CutsOrFastModel", "keptMover", "I", false)
  | 19 => ("CutsOrFastModel", "keptMoves", "I", false)
  | 20 => ("CutsOrFastModel", "keptIs", "[I", true)
  | 21 => ("CutsOrFastModel", "keptLane", "[I", true)
  | 22 => ("CutsOrFastModel", "faultAt", "I", false)
  | 23 => ("CutsOrFastModel", "isWhole", "Z", false)
  | 24 => ("CutsOrFastModel", "newMany", "I", false)
  | 25 => ("CutsOrFastModel", "newOne", "I", false)
  | 26 => ("CutsOrFastModel", "newTwo", "I", false)
  | 27 => ("CutsOrFastModel", "newA", "[I", true)
  | 28 => ("CutsOrFastModel", "newB", "[I", true)
  | 29 => ("CutsOrFastModel", "newIs", "[I", true)
  | 30 => ("CutsOrFastModel", "newCost", "[I", true)
  | 31 => ("CutsOrFastModel", "isJoined", "[Z", true)
  | 32 => ("CutsOrFastModel", "opens", "I", false)
  | 33 => ("CutsOrFastModel", "openLane", "[I", true)
  | 34 => ("CutsOrFastModel", "powers", "[I", true)
  | 35 => ("CutsOrFastModel", "fastNow", "I", false)
  | 36 => ("CutsOrFastModel", "joinHas", "[Z", true)
  | 37 => ("CutsOrFastModel", "codeFast", "I", false)
  | 38 => ("CutsOrFastModel", "codeLeft", "I", false)
  | 39 => ("CutsOrFastModel", "codeOpen", "I", false)
  | 40 => ("CutsOrFastModel", "chance", "[I", true)
  | 41 => ("CutsOrFastModel", "whole", "[I", true)
  | 42 => ("CutsOrFastModel", "seedNow", "J", false)
  | 43 => ("CutsOrFastModel", "fromOne", "[I", true)
  | 44 => ("CutsOrFastModel", "fromTwo", "[I", true)
  | 45 => ("CutsOrFastModel", "savedIs", "[I", true)
  | _ => ("CutsOrFastModel", "h", "J", false)
def tyX12 : Nat → FieldType := fun k => match k with
  | 0 => .int
  | 1 => .int
  | 2 => .int
  | 3 => .int
  | 4 => .array .int
  | 5 => .array .int
  | 6 => .array .int
  | 7 => .array .int
  | 8 => .int
  | 9 => .int
  | 10 => .array .int
  | 11 => .int
  | 12 => .array .int
  | 13 => .int
  | 14 => .int
  | 15 => .array .byte
  | 16 => .boolean
  | 17 => .int
  | 18 => .int
  | 19 => .int
  | 20 => .array .int
  | 21 => .array .int
  | 22 => .int
  | 23 => .boolean
  | 24 => .int
  | 25 => .int
  | 26 => .int
  | 27 => .array .int
  | 28 => .array .int
  | 29 => .array .int
  | 30 => .array .int
  | 31 => .array .boolean
  | 32 => .int
  | 33 => .array .int
  | 34 => .array .int
  | 35 => .int
  | 36 => .array .boolean
  | 37 => .int
  | 38 => .int
  | 39 => .int
  | 40 => .array .int
  | 41 => .array .int
  | 42 => .long
  | 43 => .array .int
  | 44 => .array .int
  | 45 => .array .int
  | _ => .long
theorem nmX12 : ∀ a, a < 47 → ∀ b, b < 47 → a ≠ b → (TX12 a).2.1 ≠ (TX12 b).2.1 := by decide +kernel
theorem tyX12_ok : ∀ k, k < 47 → parseFieldDescriptor (TX12 k).2.2.1 = some (tyX12 k) := by decide +kernel
abbrev clsL : List vw_C := [(RX0, TX0, 0), (RX1, TX1, 0), (RX2, TX2, 2), (RX3, TX3, 1), (RX4, TX4, 2), (RX5, TX5, 8), (RX6, TX6, 3), (RX7, TX7, 0), (RX8, TX8, 5), (RX9, TX9, 2), (RX10, TX10, 6), (RX11, TX11, 13), (RX12, TX12, 47)]
def nF : Nat → Nat := fun c => [0, 0, 2, 1, 2, 8, 3, 0, 5, 2, 6, 13, 47].getD c 0
def TT : Nat → u_T := fun c => match c with
  | 0 => TX0
  | 1 => TX1
  | 2 => TX2
  | 3 => TX3
  | 4 => TX4
  | 5 => TX5
  | 6 => TX6
  | 7 => TX7
  | 8 => TX8
  | 9 => TX9
  | 10 => TX10
  | 11 => TX11
  | _ => TX12
def tyT : Nat → Nat → FieldType := fun c => match c with
  | 0 => tyX0
  | 1 => tyX1
  | 2 => tyX2
  | 3 => tyX3
  | 4 => tyX4
  | 5 => tyX5
  | 6 => tyX6
  | 7 => tyX7
  | 8 => tyX8
  | 9 => tyX9
  | 10 => tyX10
  | 11 => tyX11
  | _ => tyX12
def rcl : Nat → String := fun n => ["CutsOrFast$Best", "CutsOrFast$Chance", "CutsOrFast$Dear", "CutsOrFast$Draws", "CutsOrFast$Near", "CutsOrFast$Net", "CutsOrFast$Page", "CutsOrFast$Player", "CutsOrFast$Search", "CutsOrFast$Sets", "CutsOrFast$Stand", "CutsOrFast", "CutsOrFastModel", "CutsOrFastLaw", "java/lang/Integer", "java/lang/Math"].getD n ""
abbrev MI : Type := MethodName × ByteArray × Nat × Option FieldType × Nat × Nat × Bool
def mT0 : List MI := [(⟨"CutsOrFast$Best", "<init>", "()V"⟩, prog_2_method_1_code, 1, none, 0, 0, false),
  (⟨"CutsOrFast$Best", "kind", "()I"⟩, prog_2_method_2_code, 1, (some .int), 0, 0, false),
  (⟨"CutsOrFast$Best", "choose", "(LCutsOrFast$Stand;LCutsOrFast$Search;LCutsOrFast$Draws;)I"⟩, prog_2_method_3_code, 5, (some .int), 0, 3, false),
  (⟨"CutsOrFast$Chance", "<init>", "()V"⟩, prog_3_method_1_code, 1, none, 1, 0, false),
  (⟨"CutsOrFast$Chance", "kind", "()I"⟩, prog_3_method_2_code, 1, (some .int), 1, 0, false),
  (⟨"CutsOrFast$Chance", "choose", "(LCutsOrFast$Stand;LCutsOrFast$Search;LCutsOrFast$Draws;)I"⟩, prog_3_method_3_code, 4, (some .int), 1, 3, false),
  (⟨"CutsOrFast$Dear", "<init>", "()V"⟩, prog_4_method_1_code, 1, none, 2, 0, false),
  (⟨"CutsOrFast$Dear", "kind", "()I"⟩, prog_4_method_2_code, 1, (some .int), 2, 0, false),
  (⟨"CutsOrFast$Dear", "isRather", "(LCutsOrFast$Net;II)Z"⟩, prog_4_method_3_code, 4, (some .boolean), 2, 3, false),
  (⟨"CutsOrFast$Draws", "<init>", "()V"⟩, prog_5_method_1_code, 1, none, 3, 0, false),
  (⟨"CutsOrFast$Draws", "start", "(I)V"⟩, prog_5_method_2_code, 2, none, 3, 1, false),
  (⟨"CutsOrFast$Draws", "next", "(I)I"⟩, prog_5_method_3_code, 2, (some .int), 3, 1, false),
  (⟨"CutsOrFast$Draws", "seedNow", "()I"⟩, prog_5_method_4_code, 1, (some .int), 3, 0, false),
  (⟨"CutsOrFast$Near", "<init>", "()V"⟩, prog_6_method_1_code, 1, none, 4, 0, false),
  (⟨"CutsOrFast$Near", "kind", "()I"⟩, prog_6_method_2_code, 1, (some .int), 4, 0, false),
  (⟨"CutsOrFast$Near", "choose", "(LCutsOrFast$Stand;LCutsOrFast$Search;LCutsOrFast$Draws;)I"⟩, prog_6_method_3_code, 8, (some .int), 4, 3, false),
  (⟨"CutsOrFast$Near", "isRather", "(LCutsOrFast$Net;II)Z"⟩, prog_6_method_4_code, 4, (some .boolean), 4, 3, false),
  (⟨"CutsOrFast$Near", "lengthOver", "(LCutsOrFast$Net;I)I"⟩, prog_6_method_5_code, 7, (some .int), 4, 2, false),
  (⟨"CutsOrFast$Near", "measure", "([IILCutsOrFast$Stand;)V"⟩, prog_6_method_6_code, 4, none, 4, 3, true),
  (⟨"CutsOrFast$Near", "shorten", "([ILCutsOrFast$Stand;)V"⟩, prog_6_method_7_code, 8, none, 4, 2, true),
  (⟨"CutsOrFast$Net", "<init>", "()V"⟩, prog_7_method_1_code, 1, none, 5, 0, false),
  (⟨"CutsOrFast$Net", "start", "(II)V"⟩, prog_7_method_2_code, 3, none, 5, 2, false),
  (⟨"CutsOrFast$Net", "add", "(III)V"⟩, prog_7_method_3_code, 6, none, 5, 3, false),
  (⟨"CutsOrFast$Net", "dropLast", "()V"⟩, prog_7_method_4_code, 1, none, 5, 0, false),
  (⟨"CutsOrFast$Net", "spread", "(II)I"⟩, prog_7_method_5_code, 6, (some .int), 5, 2, false),
  (⟨"CutsOrFast$Net", "spreadOnce", "(II)I"⟩, prog_7_method_6_code, 6, (some .int), 5, 2, false),
  (⟨"CutsOrFast$Net", "size", "()I"⟩, prog_7_method_7_code, 1, (some .int), 5, 0, false),
  (⟨"CutsOrFast$Net", "all", "()I"⟩, prog_7_method_8_code, 1, (some .int), 5, 0, false),
  (⟨"CutsOrFast$Net", "oneEnd", "()I"⟩, prog_7_method_9_code, 1, (some .int), 5, 0, false),
  (⟨"CutsOrFast$Net", "otherEnd", "()I"⟩, prog_7_method_10_code, 1, (some .int), 5, 0, false),
  (⟨"CutsOrFast$Net", "firstPlace", "(I)I"⟩, prog_7_method_11_code, 2, (some .int), 5, 1, false),
  (⟨"CutsOrFast$Net", "secondPlace", "(I)I"⟩, prog_7_method_12_code, 2, (some .int), 5, 1, false),
  (⟨"CutsOrFast$Net", "costOf", "(I)I"⟩, prog_7_method_13_code, 2, (some .int), 5, 1, false),
  (⟨"CutsOrFast$Net", "costOfSet", "(I)I"⟩, prog_7_method_14_code, 4, (some .int), 5, 1, false),
  (⟨"CutsOrFast$Net", "joins", "(I)Z"⟩, prog_7_method_15_code, 2, (some .boolean), 5, 1, false),
  (⟨"CutsOrFast$Net", "placesInUse", "()I"⟩, prog_7_method_16_code, 3, (some .int), 5, 0, false),
  (⟨"CutsOrFast$Net", "spans", "(II)Z"⟩, prog_7_method_17_code, 3, (some .boolean), 5, 2, false),
  (⟨"CutsOrFast$Net", "outcome", "(II)I"⟩, prog_7_method_18_code, 3, (some .int), 5, 2, false),
  (⟨"CutsOrFast$Page", "<init>", "()V"⟩, prog_8_method_1_code, 1, none, 6, 0, false),
  (⟨"CutsOrFast$Page", "size", "()I"⟩, prog_8_method_2_code, 1, (some .int), 6, 0, false),
  (⟨"CutsOrFast$Page", "clear", "()V"⟩, prog_8_method_3_code, 1, none, 6, 0, false),
  (⟨"CutsOrFast$Page", "codeAt", "(I)I"⟩, prog_8_method_4_code, 2, (some .int), 6, 1, false),
  (⟨"CutsOrFast$Page", "append", "(J)I"⟩, prog_8_method_5_code, 7, (some .int), 6, 1, false),
  (⟨"CutsOrFast$Page", "byteOf", "(JI)I"⟩, prog_8_method_6_code, 3, (some .int), 6, 2, true),
  (⟨"CutsOrFast$Page", "isNet", "()Z"⟩, prog_8_method_7_code, 1, (some .boolean), 6, 0, false),
  (⟨"CutsOrFast$Page", "soundLetters", "()I"⟩, prog_8_method_8_code, 5, (some .int), 6, 0, false),
  (⟨"CutsOrFast$Page", "step", "(IIII)I"⟩, prog_8_method_9_code, 4, (some .int), 6, 4, true),
  (⟨"CutsOrFast$Page", "stepBehindPair", "(III)I"⟩, prog_8_method_10_code, 3, (some .int), 6, 3, true),
  (⟨"CutsOrFast$Page", "isPlace", "(I)Z"⟩, prog_8_method_11_code, 1, (some .boolean), 6, 1, true),
  (⟨"CutsOrFast$Page", "isCost", "(I)Z"⟩, prog_8_method_12_code, 1, (some .boolean), 6, 1, true)]
def mT1 : List MI := [(⟨"CutsOrFast$Page", "readInto", "(LCutsOrFast$Net;LCutsOrFast$Stand;)V"⟩, prog_8_method_13_code, 10, none, 6, 2, false),
  (⟨"CutsOrFast$Player", "<init>", "()V"⟩, prog_9_method_1_code, 1, none, 7, 0, false),
  (⟨"CutsOrFast$Player", "kind", "()I"⟩, prog_9_method_2_code, 1, (some .int), 7, 0, false),
  (⟨"CutsOrFast$Player", "choose", "(LCutsOrFast$Stand;LCutsOrFast$Search;LCutsOrFast$Draws;)I"⟩, prog_9_method_3_code, 4, (some .int), 7, 3, false),
  (⟨"CutsOrFast$Search", "<init>", "(LCutsOrFast$Net;)V"⟩, prog_10_method_1_code, 6, none, 8, 1, false),
  (⟨"CutsOrFast$Search", "forget", "()V"⟩, prog_10_method_2_code, 1, none, 8, 0, false),
  (⟨"CutsOrFast$Search", "stampNow", "()J"⟩, prog_10_method_3_code, 1, (some .long), 8, 0, false),
  (⟨"CutsOrFast$Search", "recall", "(J)V"⟩, prog_10_method_4_code, 3, none, 8, 1, false),
  (⟨"CutsOrFast$Search", "owner", "(III)I"⟩, prog_10_method_5_code, 4, (some .int), 8, 3, false),
  (⟨"CutsOrFast$Search", "leastGood", "(III)I"⟩, prog_10_method_6_code, 8, (some .int), 8, 3, false),
  (⟨"CutsOrFast$Search", "worth", "(IIII)I"⟩, prog_10_method_7_code, 6, (some .int), 8, 4, false),
  (⟨"CutsOrFast$Search", "worthOf", "(IIIII)I"⟩, prog_10_method_8_code, 8, (some .int), 8, 5, false),
  (⟨"CutsOrFast$Search", "placeOf", "(IIII)I"⟩, prog_10_method_9_code, 6, (some .int), 8, 4, false),
  (⟨"CutsOrFast$Search", "movesByChance", "(II)Z"⟩, prog_10_method_10_code, 2, (some .boolean), 8, 2, true),
  (⟨"CutsOrFast$Search", "worthByMoves", "(IIIII)I"⟩, prog_10_method_11_code, 15, (some .int), 8, 5, false),
  (⟨"CutsOrFast$Sets", "<init>", "(LCutsOrFast$Net;LCutsOrFast$Search;)V"⟩, prog_11_method_1_code, 3, none, 9, 2, false),
  (⟨"CutsOrFast$Sets", "twoWays", "(II)I"⟩, prog_11_method_2_code, 7, (some .int), 9, 2, false),
  (⟨"CutsOrFast$Sets", "fewestCuts", "(II)I"⟩, prog_11_method_3_code, 9, (some .int), 9, 2, false),
  (⟨"CutsOrFast$Sets", "cheapest", "(II)I"⟩, prog_11_method_4_code, 8, (some .int), 9, 2, false),
  (⟨"CutsOrFast$Sets", "oneMore", "(II)I"⟩, prog_11_method_5_code, 7, (some .int), 9, 2, false),
  (⟨"CutsOrFast$Sets", "mends", "(IIII)Z"⟩, prog_11_method_6_code, 6, (some .boolean), 9, 4, false),
  (⟨"CutsOrFast$Stand", "<init>", "(LCutsOrFast$Net;)V"⟩, prog_12_method_1_code, 2, none, 10, 1, false),
  (⟨"CutsOrFast$Stand", "start", "(II)V"⟩, prog_12_method_2_code, 3, none, 10, 2, false),
  (⟨"CutsOrFast$Stand", "copyFrom", "(LCutsOrFast$Stand;)V"⟩, prog_12_method_3_code, 3, none, 10, 1, false),
  (⟨"CutsOrFast$Stand", "play", "(I)V"⟩, prog_12_method_4_code, 2, none, 10, 1, false),
  (⟨"CutsOrFast$Stand", "undo", "()V"⟩, prog_12_method_5_code, 2, none, 10, 0, false),
  (⟨"CutsOrFast$Stand", "undoAll", "()V"⟩, prog_12_method_6_code, 2, none, 10, 0, false),
  (⟨"CutsOrFast$Stand", "outcome", "()I"⟩, prog_12_method_7_code, 1, (some .int), 10, 0, false),
  (⟨"CutsOrFast$Stand", "stateOf", "(I)I"⟩, prog_12_method_8_code, 3, (some .int), 10, 1, false),
  (⟨"CutsOrFast$Stand", "itsNet", "()LCutsOrFast$Net;"⟩, prog_12_method_9_code, 1, (some (.object "CutsOrFast$Net")), 10, 0, false),
  (⟨"CutsOrFast$Stand", "movesMade", "()I"⟩, prog_12_method_10_code, 1, (some .int), 10, 0, false),
  (⟨"CutsOrFast$Stand", "moveAt", "(I)I"⟩, prog_12_method_11_code, 2, (some .int), 10, 1, false),
  (⟨"CutsOrFast$Stand", "side", "()I"⟩, prog_12_method_12_code, 1, (some .int), 10, 0, false),
  (⟨"CutsOrFast$Stand", "setSide", "(I)V"⟩, prog_12_method_13_code, 2, none, 10, 1, false),
  (⟨"CutsOrFast$Stand", "fastSet", "()I"⟩, prog_12_method_14_code, 1, (some .int), 10, 0, false),
  (⟨"CutsOrFast$Stand", "cutSet", "()I"⟩, prog_12_method_15_code, 1, (some .int), 10, 0, false),
  (⟨"CutsOrFast$Stand", "openSet", "()I"⟩, prog_12_method_16_code, 1, (some .int), 10, 0, false),
  (⟨"CutsOrFast$Stand", "openLane", "(I)I"⟩, prog_12_method_17_code, 4, (some .int), 10, 1, false),
  (⟨"CutsOrFast", "<init>", "()V"⟩, prog_1_method_1_code, 1, none, 11, 0, false),
  (⟨"CutsOrFast", "letters", "(J)I"⟩, prog_1_method_2_code, 3, (some .int), 11, 1, false),
  (⟨"CutsOrFast", "blank", "()I"⟩, prog_1_method_3_code, 2, (some .int), 11, 0, false),
  (⟨"CutsOrFast", "fault", "()I"⟩, prog_1_method_4_code, 1, (some .int), 11, 0, false),
  (⟨"CutsOrFast", "net", "()I"⟩, prog_1_method_5_code, 1, (some .int), 11, 0, false),
  (⟨"CutsOrFast", "lane", "(II)I"⟩, prog_1_method_6_code, 3, (some .int), 11, 2, false),
  (⟨"CutsOrFast", "status", "()I"⟩, prog_1_method_7_code, 1, (some .int), 11, 0, false),
  (⟨"CutsOrFast", "begin", "(I)I"⟩, prog_1_method_8_code, 3, (some .int), 11, 1, false),
  (⟨"CutsOrFast", "take", "(I)I"⟩, prog_1_method_9_code, 2, (some .int), 11, 1, false),
  (⟨"CutsOrFast", "back", "()I"⟩, prog_1_method_10_code, 1, (some .int), 11, 0, false),
  (⟨"CutsOrFast", "whose", "(I)I"⟩, prog_1_method_11_code, 2, (some .int), 11, 1, false),
  (⟨"CutsOrFast", "by", "(I)I"⟩, prog_1_method_12_code, 2, (some .int), 11, 1, false)]
def mT2 : List MI := [(⟨"CutsOrFast", "answer", "(I)I"⟩, prog_1_method_13_code, 2, (some .int), 11, 1, false),
  (⟨"CutsOrFast", "lost", "()I"⟩, prog_1_method_14_code, 4, (some .int), 11, 0, false),
  (⟨"CutsOrFast", "ways", "()I"⟩, prog_1_method_15_code, 1, (some .int), 11, 0, false),
  (⟨"CutsOrFast", "parting", "(I)I"⟩, prog_1_method_16_code, 3, (some .int), 11, 1, false),
  (⟨"CutsOrFast", "mend", "(I)I"⟩, prog_1_method_17_code, 3, (some .int), 11, 1, false),
  (⟨"CutsOrFast", "bought", "(I)I"⟩, prog_1_method_18_code, 3, (some .int), 11, 1, false),
  (⟨"CutsOrFast", "likely", "(II)I"⟩, prog_1_method_19_code, 6, (some .int), 11, 2, false),
  (⟨"CutsOrFast", "player", "(I)I"⟩, prog_1_method_20_code, 2, (some .int), 11, 1, false),
  (⟨"CutsOrFast", "as", "(II)I"⟩, prog_1_method_21_code, 4, (some .int), 11, 2, false),
  (⟨"CutsOrFast", "move", "(II)I"⟩, prog_1_method_22_code, 4, (some .int), 11, 2, false),
  (⟨"CutsOrFast", "game", "(IIII)I"⟩, prog_1_method_23_code, 8, (some .int), 11, 4, false),
  (⟨"CutsOrFast", "image", "()I"⟩, prog_1_method_24_code, 1, (some .int), 11, 0, false),
  (⟨"CutsOrFast", "restore", "()I"⟩, prog_1_method_25_code, 1, (some .int), 11, 0, false),
  (⟨"CutsOrFast", "count", "(I)I"⟩, prog_1_method_26_code, 2, (some .int), 11, 1, false),
  (⟨"CutsOrFast", "digest", "()J"⟩, prog_1_method_27_code, 5, (some .long), 11, 0, false),
  (⟨"CutsOrFast", "hasNet", "()Z"⟩, prog_1_method_28_code, 1, (some .boolean), 11, 0, false),
  (⟨"CutsOrFast", "isLane", "(I)Z"⟩, prog_1_method_29_code, 2, (some .boolean), 11, 1, false),
  (⟨"CutsOrFast", "isSide", "(I)Z"⟩, prog_1_method_30_code, 1, (some .boolean), 11, 1, true),
  (⟨"CutsOrFast", "isKind", "(I)Z"⟩, prog_1_method_31_code, 1, (some .boolean), 11, 1, true),
  (⟨"CutsOrFast", "canBeTaken", "(I)Z"⟩, prog_1_method_32_code, 2, (some .boolean), 11, 1, false),
  (⟨"CutsOrFast", "playerAt", "(I)LCutsOrFast$Player;"⟩, prog_1_method_33_code, 2, (some (.object "CutsOrFast$Player")), 11, 1, false),
  (⟨"CutsOrFast", "newPlayer", "(I)LCutsOrFast$Player;"⟩, prog_1_method_34_code, 1, (some (.object "CutsOrFast$Player")), 11, 1, true),
  (⟨"CutsOrFast", "isOfKind", "(LCutsOrFast$Player;I)Z"⟩, prog_1_method_35_code, 2, (some .boolean), 11, 2, true),
  (⟨"CutsOrFast", "playOut", "(LCutsOrFast$Player;LCutsOrFast$Player;)I"⟩, prog_1_method_36_code, 5, (some .int), 11, 2, false),
  (⟨"CutsOrFast", "factorial", "(I)I"⟩, prog_1_method_37_code, 1, (some .int), 11, 1, true),
  (⟨"CutsOrFast", "greatestDivisor", "(II)I"⟩, prog_1_method_38_code, 6, (some .int), 11, 2, true),
  (⟨"CutsOrFast", "at", "([II)I"⟩, prog_1_method_39_code, 2, (some .int), 11, 2, true),
  (⟨"CutsOrFast", "put", "([III)V"⟩, prog_1_method_40_code, 3, none, 11, 3, true),
  (⟨"CutsOrFastModel", "<init>", "()V"⟩, prog_14_method_1_code, 1, none, 12, 0, false),
  (⟨"CutsOrFastModel", "within", "(III)Z"⟩, prog_14_method_3_code, 3, (some .boolean), 12, 3, true),
  (⟨"CutsOrFastModel", "has", "(II)Z"⟩, prog_14_method_4_code, 2, (some .boolean), 12, 2, true),
  (⟨"CutsOrFastModel", "letters", "(J)I"⟩, prog_14_method_5_code, 7, (some .int), 12, 1, false),
  (⟨"CutsOrFastModel", "blank", "()I"⟩, prog_14_method_6_code, 2, (some .int), 12, 0, false),
  (⟨"CutsOrFastModel", "nextState", "(II)I"⟩, prog_14_method_7_code, 5, (some .int), 12, 2, false),
  (⟨"CutsOrFastModel", "behindLane", "(II)I"⟩, prog_14_method_8_code, 3, (some .int), 12, 2, false),
  (⟨"CutsOrFastModel", "readNet", "()V"⟩, prog_14_method_9_code, 5, none, 12, 0, false),
  (⟨"CutsOrFastModel", "fault", "()I"⟩, prog_14_method_10_code, 1, (some .int), 12, 0, false),
  (⟨"CutsOrFastModel", "net", "()I"⟩, prog_14_method_11_code, 2, (some .int), 12, 0, false),
  (⟨"CutsOrFastModel", "isLaneNumber", "(I)Z"⟩, prog_14_method_12_code, 2, (some .boolean), 12, 1, false),
  (⟨"CutsOrFastModel", "laneNow", "(II)I"⟩, prog_14_method_13_code, 3, (some .int), 12, 2, false),
  (⟨"CutsOrFastModel", "lane", "(II)I"⟩, prog_14_method_14_code, 3, (some .int), 12, 2, false),
  (⟨"CutsOrFastModel", "reached", "(III)I"⟩, prog_14_method_15_code, 9, (some .int), 12, 3, false),
  (⟨"CutsOrFastModel", "joins", "(II)Z"⟩, prog_14_method_16_code, 3, (some .boolean), 12, 2, false),
  (⟨"CutsOrFastModel", "setOf", "(I)I"⟩, prog_14_method_17_code, 4, (some .int), 12, 1, false),
  (⟨"CutsOrFastModel", "statusNow", "()I"⟩, prog_14_method_18_code, 1, (some .int), 12, 0, false),
  (⟨"CutsOrFastModel", "status", "()I"⟩, prog_14_method_19_code, 1, (some .int), 12, 0, false),
  (⟨"CutsOrFastModel", "layOpens", "(I)V"⟩, prog_14_method_20_code, 3, none, 12, 1, false),
  (⟨"CutsOrFastModel", "readCode", "(I)V"⟩, prog_14_method_21_code, 5, none, 12, 1, false),
  (⟨"CutsOrFastModel", "figure", "(II)I"⟩, prog_14_method_22_code, 2, (some .int), 12, 2, true),
  (⟨"CutsOrFastModel", "hasBy", "(II)Z"⟩, prog_14_method_23_code, 7, (some .boolean), 12, 2, false)]
def mT3 : List MI := [(⟨"CutsOrFastModel", "laySolved", "(I)V"⟩, prog_14_method_24_code, 6, none, 12, 1, false),
  (⟨"CutsOrFastModel", "isSide", "(I)Z"⟩, prog_14_method_25_code, 1, (some .boolean), 12, 1, true),
  (⟨"CutsOrFastModel", "whose", "(I)I"⟩, prog_14_method_26_code, 2, (some .int), 12, 1, false),
  (⟨"CutsOrFastModel", "byFrom", "(II)I"⟩, prog_14_method_27_code, 5, (some .int), 12, 2, false),
  (⟨"CutsOrFastModel", "byNow", "(I)I"⟩, prog_14_method_28_code, 2, (some .int), 12, 1, false),
  (⟨"CutsOrFastModel", "by", "(I)I"⟩, prog_14_method_29_code, 2, (some .int), 12, 1, false),
  (⟨"CutsOrFastModel", "begin", "(I)I"⟩, prog_14_method_30_code, 3, (some .int), 12, 1, false),
  (⟨"CutsOrFastModel", "take", "(I)I"⟩, prog_14_method_31_code, 2, (some .int), 12, 1, false),
  (⟨"CutsOrFastModel", "back", "()I"⟩, prog_14_method_32_code, 1, (some .int), 12, 0, false),
  (⟨"CutsOrFastModel", "answer", "(I)I"⟩, prog_14_method_33_code, 3, (some .int), 12, 1, false),
  (⟨"CutsOrFastModel", "lostNow", "()I"⟩, prog_14_method_34_code, 10, (some .int), 12, 0, false),
  (⟨"CutsOrFastModel", "placeOf", "(I)I"⟩, prog_14_method_35_code, 3, (some .int), 12, 1, false),
  (⟨"CutsOrFastModel", "lost", "()I"⟩, prog_14_method_36_code, 1, (some .int), 12, 0, false),
  (⟨"CutsOrFastModel", "waysNow", "()I"⟩, prog_14_method_37_code, 6, (some .int), 12, 0, false),
  (⟨"CutsOrFastModel", "ways", "()I"⟩, prog_14_method_38_code, 1, (some .int), 12, 0, false),
  (⟨"CutsOrFastModel", "size", "(I)I"⟩, prog_14_method_39_code, 3, (some .int), 12, 1, true),
  (⟨"CutsOrFastModel", "partingNow", "(I)I"⟩, prog_14_method_40_code, 6, (some .int), 12, 1, false),
  (⟨"CutsOrFastModel", "parting", "(I)I"⟩, prog_14_method_41_code, 2, (some .int), 12, 1, false),
  (⟨"CutsOrFastModel", "isMendedBy", "(II)Z"⟩, prog_14_method_42_code, 3, (some .boolean), 12, 2, false),
  (⟨"CutsOrFastModel", "mendNow", "(I)I"⟩, prog_14_method_43_code, 4, (some .int), 12, 1, false),
  (⟨"CutsOrFastModel", "mend", "(I)I"⟩, prog_14_method_44_code, 2, (some .int), 12, 1, false),
  (⟨"CutsOrFastModel", "boughtNow", "(I)I"⟩, prog_14_method_45_code, 9, (some .int), 12, 1, false),
  (⟨"CutsOrFastModel", "bought", "(I)I"⟩, prog_14_method_46_code, 2, (some .int), 12, 1, false),
  (⟨"CutsOrFastModel", "isAny", "(II)Z"⟩, prog_14_method_47_code, 2, (some .boolean), 12, 2, true),
  (⟨"CutsOrFastModel", "layWholes", "(I)V"⟩, prog_14_method_48_code, 4, none, 12, 1, false),
  (⟨"CutsOrFastModel", "chanceBy", "(III)I"⟩, prog_14_method_49_code, 9, (some .int), 12, 3, false),
  (⟨"CutsOrFastModel", "lowest", "(III)I"⟩, prog_14_method_50_code, 6, (some .int), 12, 3, true),
  (⟨"CutsOrFastModel", "likelyNow", "(II)I"⟩, prog_14_method_51_code, 8, (some .int), 12, 2, false),
  (⟨"CutsOrFastModel", "likely", "(II)I"⟩, prog_14_method_52_code, 3, (some .int), 12, 2, false),
  (⟨"CutsOrFastModel", "player", "(I)I"⟩, prog_14_method_53_code, 2, (some .int), 12, 1, false),
  (⟨"CutsOrFastModel", "isPlayer", "(I)Z"⟩, prog_14_method_54_code, 2, (some .boolean), 12, 1, false),
  (⟨"CutsOrFastModel", "as", "(II)I"⟩, prog_14_method_55_code, 4, (some .int), 12, 2, false),
  (⟨"CutsOrFastModel", "draw", "(I)I"⟩, prog_14_method_56_code, 2, (some .int), 12, 1, false),
  (⟨"CutsOrFastModel", "nthOpen", "(I)I"⟩, prog_14_method_57_code, 4, (some .int), 12, 1, false),
  (⟨"CutsOrFastModel", "layFar", "()V"⟩, prog_14_method_58_code, 6, none, 12, 0, false),
  (⟨"CutsOrFastModel", "isNear", "(I)Z"⟩, prog_14_method_59_code, 4, (some .boolean), 12, 1, false),
  (⟨"CutsOrFastModel", "nearest", "(Z)I"⟩, prog_14_method_60_code, 5, (some .int), 12, 1, false),
  (⟨"CutsOrFastModel", "openMany", "()I"⟩, prog_14_method_61_code, 1, (some .int), 12, 0, false),
  (⟨"CutsOrFastModel", "takes", "(II)I"⟩, prog_14_method_62_code, 4, (some .int), 12, 2, false),
  (⟨"CutsOrFastModel", "move", "(II)I"⟩, prog_14_method_63_code, 3, (some .int), 12, 2, false),
  (⟨"CutsOrFastModel", "playOut", "(III)I"⟩, prog_14_method_64_code, 8, (some .int), 12, 3, false),
  (⟨"CutsOrFastModel", "game", "(IIII)I"⟩, prog_14_method_65_code, 5, (some .int), 12, 4, false),
  (⟨"CutsOrFastModel", "image", "()I"⟩, prog_14_method_66_code, 2, (some .int), 12, 0, false),
  (⟨"CutsOrFastModel", "restore", "()I"⟩, prog_14_method_67_code, 2, (some .int), 12, 0, false),
  (⟨"CutsOrFastModel", "howMany", "(I)I"⟩, prog_14_method_68_code, 2, (some .int), 12, 1, false),
  (⟨"CutsOrFastModel", "count", "(I)I"⟩, prog_14_method_69_code, 2, (some .int), 12, 1, false),
  (⟨"CutsOrFastModel", "mix", "(J)V"⟩, prog_14_method_70_code, 3, none, 12, 1, false),
  (⟨"CutsOrFastModel", "mixNet", "()V"⟩, prog_14_method_71_code, 2, none, 12, 0, false),
  (⟨"CutsOrFastModel", "digest", "()J"⟩, prog_14_method_72_code, 3, (some .long), 12, 0, false),
  (⟨"java/lang/Integer", "bitCount", "(I)I"⟩, prog_15_method_49_code, 1, (some .int), 14, 1, true)]
def mT4 : List MI := [(⟨"java/lang/Math", "max", "(II)I"⟩, prog_16_method_65_code, 2, (some .int), 15, 2, true),
  (⟨"java/lang/Math", "min", "(II)I"⟩, prog_16_method_69_code, 2, (some .int), 15, 2, true),
  (⟨"CutsOrFastLaw", "law", "([I)Z"⟩, code, 4, (some .boolean), 13, 1, true)]
def mTab : List MI := mT0 ++ mT1 ++ mT2 ++ mT3 ++ mT4
def mI (k : Nat) : MI := mTab.getD k (⟨"", "", ""⟩, ⟨#[]⟩, 0, none, 0, 0, false)
def mName (k : Nat) : MethodName := (mI k).1
def mCode (k : Nat) : ByteArray := (mI k).2.1
def mMax (k : Nat) : Nat := (mI k).2.2.1
def mRet (k : Nat) : Option FieldType := (mI k).2.2.2.1
def mOwn (k : Nat) : Nat := (mI k).2.2.2.2.1
def mArg (k : Nat) : Nat := (mI k).2.2.2.2.2.1
def cPos : List Nat := [609, 787, 672, 641, 790, 685, 632, 793, 735, 193, 665, 691, 753, 619, 796, 699, 737, 728, 710, 714, 94, 307, 316, 563, 321, 325, 312, 382, 707, 724, 346, 350, 358, 579, 378, 525, 529, 374, 77, 261, 265, 277, 248, 251, 298, 273, 281, 287, 284, 290, 303, 612, 797, 740, 150, 333, 553, 567, 439, 489, 443, 454, 465, 474, 471, 180, 520, 537, 575, 548, 557, 125, 329, 503, 413, 422, 507, 370, 354, 703, 393, 512, 397, 401, 431, 435, 589, 680, 69, 244, 257, 269, 294, 338, 362, 386, 405, 418, 427, 485, 495, 499, 516, 533, 544, 571, 584, 598, 650, 661, 745, 757, 761, 765, 769, 366, 342, 389, 601, 409, 654, 604, 657, 749, 458, 594, 155, 158, 804, 975, 1018, 955, 960, 972, 979, 968, 964, 983, 991, 995, 987, 1015, 1011, 1007, 1003, 999, 1033, 1037, 1044, 1041, 1029, 1025, 1022, 1056, 1052, 1048, 1060, 1064, 1068, 1072, 1080, 1084, 1076, 1092, 1088, 1103, 1100, 1096, 1115, 1111, 1107, 1123, 1119, 1139, 1136, 1143, 1147, 1132, 1128, 1151, 1159, 1155, 1191, 1171, 1179, 1183, 1175, 1187, 1167, 1163, 1203, 1199, 1207, 1211, 1219, 1215, 1228, 1233, 1223, 447, 478, 481]
def iPos : List Nat := [61, 64, 63, 56, 62, 52, 51, 60, 54, 55, 53, 50, 57, 49, 58, 59]
def selLO : Jvm.Cond := .selects "CutsOrFast$Dear" ⟨"CutsOrFast$Near", "lengthOver", "(LCutsOrFast$Net;I)I"⟩ ⟨"CutsOrFast$Near", "lengthOver", "(LCutsOrFast$Net;I)I"⟩
def tblX : List Jvm.Cond := lw_tbl ++ [selLO]
def tAt (i : Nat) (w : Jvm.Cond) : Bool := decide (tblX[i]? = some w) && goodWord w
def tblG : List Jvm.Cond := tblX.filter goodWord
def wCode (k : Nat) : Jvm.Cond := .code (mName k) (mCode k) (mMax k) (mRet k)
theorem tAt_in {i : Nat} {w : Jvm.Cond} (h : tAt i w = true) : w ∈ tblG := by
  unfold tAt at h
  rw [Bool.and_eq_true] at h
  exact List.mem_filter.mpr ⟨List.mem_of_getElem? (of_decide_eq_true h.1), h.2⟩
def mChk (k : Nat) : Bool := tAt (iPos.getD (mOwn k) 0) (.initialized (mName k).cls) && decide (rcl (mOwn k) = (mName k).cls) && decide ((mName k).cls ≠ "java/lang/invoke/MethodHandle") && decide ((mName k).cls ≠ "java/lang/invoke/VarHandle") && decide ((parseMethodDescriptor (mName k).desc).map (fun d => d.parameters.length) = some (mArg k)) && plainName (mName k).cls
theorem mChk_0 : ∀ k, k < 50 → mChk (k + 0) = true := by decide +kernel
theorem mChk_50 : ∀ k, k < 50 → mChk (k + 50) = true := by decide +kernel
theorem mChk_100 : ∀ k, k < 50 → mChk (k + 100) = true := by decide +kernel
theorem mChk_150 : ∀ k, k < 50 → mChk (k + 150) = true := by decide +kernel
theorem mChk_all : ∀ k, k < 200 → mChk k = true := by
  intro k hk
  rcases Nat.lt_or_ge k 50 with h0 | h0
  · have := mChk_0 (k - 0) (by omega)
    rwa [Nat.sub_add_cancel (by omega)] at this
  rcases Nat.lt_or_ge k 100 with h1 | h1
  · have := mChk_50 (k - 50) (by omega)
    rwa [Nat.sub_add_cancel (by omega)] at this
  rcases Nat.lt_or_ge k 150 with h2 | h2
  · have := mChk_100 (k - 100) (by omega)
    rwa [Nat.sub_add_cancel (by omega)] at this
  have := mChk_150 (k - 150) (by omega)
  rwa [Nat.sub_add_cancel (by omega)] at this
theorem cw_0 : wCode 0 ∈ tables_1 := List.mem_append_right _ (List.mem_append_right _ (List.mem_append_left _ (List.mem_of_getElem? (i := 80) rfl)))
theorem ca_0 : ∀ a, a < 1 → wCode a ∈ tables_1 := lt_s (lt_0 (p := fun a => wCode a ∈ tables_1)) cw_0
theorem cw_1 : wCode 1 ∈ tables_1 := List.mem_append_right _ (List.mem_append_right _ (List.mem_append_right _ (List.mem_append_left _ (List.mem_of_getElem? (i := 18) rfl))))
theorem ca_1 : ∀ a, a < 2 → wCode a ∈ tables_1 := lt_s ca_0 cw_1
theorem cw_2 : wCode 2 ∈ tables_1 := List.mem_append_right _ (List.mem_append_right _ (List.mem_append_left _ (List.mem_of_getElem? (i := 143) rfl)))
theorem ca_2 : ∀ a, a < 3 → wCode a ∈ tables_1 := lt_s ca_1 cw_2
theorem cw_3 : wCode 3 ∈ tables_1 := List.mem_append_right _ (List.mem_append_right _ (List.mem_append_left _ (List.mem_of_getElem? (i := 112) rfl)))
theorem ca_3 : ∀ a, a < 4 → wCode a ∈ tables_1 := lt_s ca_2 cw_3
theorem cw_4 : wCode 4 ∈ tables_1 := List.mem_append_right _ (List.mem_append_right _ (List.mem_append_right _ (List.mem_append_left _ (List.mem_of_getElem? (i := 21) rfl))))
theorem ca_4 : ∀ a, a < 5 → wCode a ∈ tables_1 := lt_s ca_3 cw_4
theorem cw_5 : wCode 5 ∈ tables_1 := List.mem_append_right _ (List.mem_append_right _ (List.mem_append_left _ (List.mem_of_getElem? (i := 156) rfl)))
theorem ca_5 : ∀ a, a < 6 → wCode a ∈ tables_1 := lt_s ca_4 cw_5
theorem cw_6 : wCode 6 ∈ tables_1 := List.mem_append_right _ (List.mem_append_right _ (List.mem_append_left _ (List.mem_of_getElem? (i := 103) rfl)))
theorem ca_6 : ∀ a, a < 7 → wCode a ∈ tables_1 := lt_s ca_5 cw_6
theorem cw_7 : wCode 7 ∈ tables_1 := List.mem_append_right _ (List.mem_append_right _ (List.mem_append_right _ (List.mem_append_left _ (List.mem_of_getElem? (i := 24) rfl))))
theorem ca_7 : ∀ a, a < 8 → wCode a ∈ tables_1 := lt_s ca_6 cw_7
theorem cw_8 : wCode 8 ∈ tables_1 := List.mem_append_right _ (List.mem_append_right _ (List.mem_append_left _ (List.mem_of_getElem? (i := 206) rfl)))
theorem ca_8 : ∀ a, a < 9 → wCode a ∈ tables_1 := lt_s ca_7 cw_8
theorem cw_9 : wCode 9 ∈ tables_1 := List.mem_append_left _ (List.mem_of_getElem? (i := 144) rfl)
theorem ca_9 : ∀ a, a < 10 → wCode a ∈ tables_1 := lt_s ca_8 cw_9
theorem cw_10 : wCode 10 ∈ tables_1 := List.mem_append_right _ (List.mem_append_right _ (List.mem_append_left _ (List.mem_of_getElem? (i := 136) rfl)))
theorem ca_10 : ∀ a, a < 11 → wCode a ∈ tables_1 := lt_s ca_9 cw_10
theorem cw_11 : wCode 11 ∈ tables_1 := List.mem_append_right _ (List.mem_append_right _ (List.mem_append_left _ (List.mem_of_getElem? (i := 162) rfl)))
theorem ca_11 : ∀ a, a < 12 → wCode a ∈ tables_1 := lt_s ca_10 cw_11
theorem cw_12 : wCode 12 ∈ tables_1 := List.mem_append_right _ (List.mem_append_right _ (List.mem_append_left _ (List.mem_of_getElem? (i := 224) rfl)))
theorem ca_12 : ∀ a, a < 13 → wCode a ∈ tables_1 := lt_s ca_11 cw_12
theorem cw_13 : wCode 13 ∈ tables_1 := List.mem_append_right _ (List.mem_append_right _ (List.mem_append_left _ (List.mem_of_getElem? (i := 90) rfl)))
theorem ca_13 : ∀ a, a < 14 → wCode a ∈ tables_1 := lt_s ca_12 cw_13
theorem cw_14 : wCode 14 ∈ tables_1 := List.mem_append_right _ (List.mem_append_right _ (List.mem_append_right _ (List.mem_append_left _ (List.mem_of_getElem? (i := 27) rfl))))
theorem ca_14 : ∀ a, a < 15 → wCode a ∈ tables_1 := lt_s ca_13 cw_14
theorem cw_15 : wCode 15 ∈ tables_1 := List.mem_append_right _ (List.mem_append_right _ (List.mem_append_left _ (List.mem_of_getElem? (i := 170) rfl)))
theorem ca_15 : ∀ a, a < 16 → wCode a ∈ tables_1 := lt_s ca_14 cw_15
theorem cw_16 : wCode 16 ∈ tables_1 := List.mem_append_right _ (List.mem_append_right _ (List.mem_append_left _ (List.mem_of_getElem? (i := 208) rfl)))
theorem ca_16 : ∀ a, a < 17 → wCode a ∈ tables_1 := lt_s ca_15 cw_16
theorem cw_17 : wCode 17 ∈ tables_1 := List.mem_append_right _ (List.mem_append_right _ (List.mem_append_left _ (List.mem_of_getElem? (i := 199) rfl)))
theorem ca_17 : ∀ a, a < 18 → wCode a ∈ tables_1 := lt_s ca_16 cw_17
theorem cw_18 : wCode 18 ∈ tables_1 := List.mem_append_right _ (List.mem_append_right _ (List.mem_append_left _ (List.mem_of_getElem? (i := 181) rfl)))
theorem ca_18 : ∀ a, a < 19 → wCode a ∈ tables_1 := lt_s ca_17 cw_18
theorem cw_19 : wCode 19 ∈ tables_1 := List.mem_append_right _ (List.mem_append_right _ (List.mem_append_left _ (List.mem_of_getElem? (i := 185) rfl)))
theorem ca_19 : ∀ a, a < 20 → wCode a ∈ tables_1 := lt_s ca_18 cw_19
theorem cw_20 : wCode 20 ∈ tables_1 := List.mem_append_left _ (List.mem_of_getElem? (i := 45) rfl)
theorem ca_20 : ∀ a, a < 21 → wCode a ∈ tables_1 := lt_s ca_19 cw_20
theorem cw_21 : wCode 21 ∈ tables_1 := List.mem_append_right _ (List.mem_append_left _ (List.mem_of_getElem? (i := 18) rfl))
theorem ca_21 : ∀ a, a < 22 → wCode a ∈ tables_1 := lt_s ca_20 cw_21
theorem cw_22 : wCode 22 ∈ tables_1 := List.mem_append_right _ (List.mem_append_left _ (List.mem_of_getElem? (i := 27) rfl))
theorem ca_22 : ∀ a, a < 23 → wCode a ∈ tables_1 := lt_s ca_21 cw_22
theorem cw_23 : wCode 23 ∈ tables_1 := List.mem_append_right _ (List.mem_append_right _ (List.mem_append_left _ (List.mem_of_getElem? (i := 34) rfl)))
theorem ca_23 : ∀ a, a < 24 → wCode a ∈ tables_1 := lt_s ca_22 cw_23
theorem cw_24 : wCode 24 ∈ tables_1 := List.mem_append_right _ (List.mem_append_left _ (List.mem_of_getElem? (i := 32) rfl))
theorem ca_24 : ∀ a, a < 25 → wCode a ∈ tables_1 := lt_s ca_23 cw_24
theorem cw_25 : wCode 25 ∈ tables_1 := List.mem_append_right _ (List.mem_append_left _ (List.mem_of_getElem? (i := 36) rfl))
theorem ca_25 : ∀ a, a < 26 → wCode a ∈ tables_1 := lt_s ca_24 cw_25
theorem cw_26 : wCode 26 ∈ tables_1 := List.mem_append_right _ (List.mem_append_left _ (List.mem_of_getElem? (i := 23) rfl))
theorem ca_26 : ∀ a, a < 27 → wCode a ∈ tables_1 := lt_s ca_25 cw_26
theorem cw_27 : wCode 27 ∈ tables_1 := List.mem_append_right _ (List.mem_append_left _ (List.mem_of_getElem? (i := 93) rfl))
theorem ca_27 : ∀ a, a < 28 → wCode a ∈ tables_1 := lt_s ca_26 cw_27
theorem cw_28 : wCode 28 ∈ tables_1 := List.mem_append_right _ (List.mem_append_right _ (List.mem_append_left _ (List.mem_of_getElem? (i := 178) rfl)))
theorem ca_28 : ∀ a, a < 29 → wCode a ∈ tables_1 := lt_s ca_27 cw_28
theorem cw_29 : wCode 29 ∈ tables_1 := List.mem_append_right _ (List.mem_append_right _ (List.mem_append_left _ (List.mem_of_getElem? (i := 195) rfl)))
theorem ca_29 : ∀ a, a < 30 → wCode a ∈ tables_1 := lt_s ca_28 cw_29
theorem cw_30 : wCode 30 ∈ tables_1 := List.mem_append_right _ (List.mem_append_left _ (List.mem_of_getElem? (i := 57) rfl))
theorem ca_30 : ∀ a, a < 31 → wCode a ∈ tables_1 := lt_s ca_29 cw_30
theorem cw_31 : wCode 31 ∈ tables_1 := List.mem_append_right _ (List.mem_append_left _ (List.mem_of_getElem? (i := 61) rfl))
theorem ca_31 : ∀ a, a < 32 → wCode a ∈ tables_1 := lt_s ca_30 cw_31
theorem cw_32 : wCode 32 ∈ tables_1 := List.mem_append_right _ (List.mem_append_left _ (List.mem_of_getElem? (i := 69) rfl))
theorem ca_32 : ∀ a, a < 33 → wCode a ∈ tables_1 := lt_s ca_31 cw_32
theorem cw_33 : wCode 33 ∈ tables_1 := List.mem_append_right _ (List.mem_append_right _ (List.mem_append_left _ (List.mem_of_getElem? (i := 50) rfl)))
theorem ca_33 : ∀ a, a < 34 → wCode a ∈ tables_1 := lt_s ca_32 cw_33
theorem cw_34 : wCode 34 ∈ tables_1 := List.mem_append_right _ (List.mem_append_left _ (List.mem_of_getElem? (i := 89) rfl))
theorem ca_34 : ∀ a, a < 35 → wCode a ∈ tables_1 := lt_s ca_33 cw_34
theorem cw_35 : wCode 35 ∈ tables_1 := List.mem_append_right _ (List.mem_append_left _ (List.mem_of_getElem? (i := 236) rfl))
theorem ca_35 : ∀ a, a < 36 → wCode a ∈ tables_1 := lt_s ca_34 cw_35
theorem cw_36 : wCode 36 ∈ tables_1 := List.mem_append_right _ (List.mem_append_right _ (List.mem_append_left _ (List.mem_of_getElem? (i := 0) rfl)))
theorem ca_36 : ∀ a, a < 37 → wCode a ∈ tables_1 := lt_s ca_35 cw_36
theorem cw_37 : wCode 37 ∈ tables_1 := List.mem_append_right _ (List.mem_append_left _ (List.mem_of_getElem? (i := 85) rfl))
theorem ca_37 : ∀ a, a < 38 → wCode a ∈ tables_1 := lt_s ca_36 cw_37
theorem cw_38 : wCode 38 ∈ tables_1 := List.mem_append_left _ (List.mem_of_getElem? (i := 28) rfl)
theorem ca_38 : ∀ a, a < 39 → wCode a ∈ tables_1 := lt_s ca_37 cw_38
theorem cw_39 : wCode 39 ∈ tables_1 := List.mem_append_left _ (List.mem_of_getElem? (i := 212) rfl)
theorem ca_39 : ∀ a, a < 40 → wCode a ∈ tables_1 := lt_s ca_38 cw_39
theorem cw_40 : wCode 40 ∈ tables_1 := List.mem_append_left _ (List.mem_of_getElem? (i := 216) rfl)
theorem ca_40 : ∀ a, a < 41 → wCode a ∈ tables_1 := lt_s ca_39 cw_40
theorem cw_41 : wCode 41 ∈ tables_1 := List.mem_append_left _ (List.mem_of_getElem? (i := 228) rfl)
theorem ca_41 : ∀ a, a < 42 → wCode a ∈ tables_1 := lt_s ca_40 cw_41
theorem cw_42 : wCode 42 ∈ tables_1 := List.mem_append_left _ (List.mem_of_getElem? (i := 199) rfl)
theorem ca_42 : ∀ a, a < 43 → wCode a ∈ tables_1 := lt_s ca_41 cw_42
theorem cw_43 : wCode 43 ∈ tables_1 := List.mem_append_left _ (List.mem_of_getElem? (i := 202) rfl)
theorem ca_43 : ∀ a, a < 44 → wCode a ∈ tables_1 := lt_s ca_42 cw_43
theorem cw_44 : wCode 44 ∈ tables_1 := List.mem_append_right _ (List.mem_append_left _ (List.mem_of_getElem? (i := 9) rfl))
theorem ca_44 : ∀ a, a < 45 → wCode a ∈ tables_1 := lt_s ca_43 cw_44
theorem cw_45 : wCode 45 ∈ tables_1 := List.mem_append_left _ (List.mem_of_getElem? (i := 224) rfl)
theorem ca_45 : ∀ a, a < 46 → wCode a ∈ tables_1 := lt_s ca_44 cw_45
theorem cw_46 : wCode 46 ∈ tables_1 := List.mem_append_left _ (List.mem_of_getElem? (i := 232) rfl)
theorem ca_46 : ∀ a, a < 47 → wCode a ∈ tables_1 := lt_s ca_45 cw_46
theorem cw_47 : wCode 47 ∈ tables_1 := List.mem_append_left _ (List.mem_of_getElem? (i := 238) rfl)
theorem ca_47 : ∀ a, a < 48 → wCode a ∈ tables_1 := lt_s ca_46 cw_47
theorem cw_48 : wCode 48 ∈ tables_1 := List.mem_append_left _ (List.mem_of_getElem? (i := 235) rfl)
theorem ca_48 : ∀ a, a < 49 → wCode a ∈ tables_1 := lt_s ca_47 cw_48
theorem cw_49 : wCode 49 ∈ tables_1 := List.mem_append_right _ (List.mem_append_left _ (List.mem_of_getElem? (i := 1) rfl))
theorem ca_49 : ∀ a, a < 50 → wCode a ∈ tables_1 := lt_s ca_48 cw_49
theorem cw_50 : wCode 50 ∈ tables_1 := List.mem_append_right _ (List.mem_append_left _ (List.mem_of_getElem? (i := 14) rfl))
theorem ca_50 : ∀ a, a < 51 → wCode a ∈ tables_1 := lt_s ca_49 cw_50
theorem cw_51 : wCode 51 ∈ tables_1 := List.mem_append_right _ (List.mem_append_right _ (List.mem_append_left _ (List.mem_of_getElem? (i := 83) rfl)))
theorem ca_51 : ∀ a, a < 52 → wCode a ∈ tables_1 := lt_s ca_50 cw_51
theorem cw_52 : wCode 52 ∈ tables_1 := List.mem_append_right _ (List.mem_append_right _ (List.mem_append_right _ (List.mem_append_left _ (List.mem_of_getElem? (i := 28) rfl))))
theorem ca_52 : ∀ a, a < 53 → wCode a ∈ tables_1 := lt_s ca_51 cw_52
theorem cw_53 : wCode 53 ∈ tables_1 := List.mem_append_right _ (List.mem_append_right _ (List.mem_append_left _ (List.mem_of_getElem? (i := 211) rfl)))
theorem ca_53 : ∀ a, a < 54 → wCode a ∈ tables_1 := lt_s ca_52 cw_53
theorem cw_54 : wCode 54 ∈ tables_1 := List.mem_append_left _ (List.mem_of_getElem? (i := 101) rfl)
theorem ca_54 : ∀ a, a < 55 → wCode a ∈ tables_1 := lt_s ca_53 cw_54
theorem cw_55 : wCode 55 ∈ tables_1 := List.mem_append_right _ (List.mem_append_left _ (List.mem_of_getElem? (i := 44) rfl))
theorem ca_55 : ∀ a, a < 56 → wCode a ∈ tables_1 := lt_s ca_54 cw_55
theorem cw_56 : wCode 56 ∈ tables_1 := List.mem_append_right _ (List.mem_append_right _ (List.mem_append_left _ (List.mem_of_getElem? (i := 24) rfl)))
theorem ca_56 : ∀ a, a < 57 → wCode a ∈ tables_1 := lt_s ca_55 cw_56
theorem cw_57 : wCode 57 ∈ tables_1 := List.mem_append_right _ (List.mem_append_right _ (List.mem_append_left _ (List.mem_of_getElem? (i := 38) rfl)))
theorem ca_57 : ∀ a, a < 58 → wCode a ∈ tables_1 := lt_s ca_56 cw_57
theorem cw_58 : wCode 58 ∈ tables_1 := List.mem_append_right _ (List.mem_append_left _ (List.mem_of_getElem? (i := 150) rfl))
theorem ca_58 : ∀ a, a < 59 → wCode a ∈ tables_1 := lt_s ca_57 cw_58
theorem cw_59 : wCode 59 ∈ tables_1 := List.mem_append_right _ (List.mem_append_left _ (List.mem_of_getElem? (i := 200) rfl))
theorem ca_59 : ∀ a, a < 60 → wCode a ∈ tables_1 := lt_s ca_58 cw_59
theorem cw_60 : wCode 60 ∈ tables_1 := List.mem_append_right _ (List.mem_append_left _ (List.mem_of_getElem? (i := 154) rfl))
theorem ca_60 : ∀ a, a < 61 → wCode a ∈ tables_1 := lt_s ca_59 cw_60
theorem cw_61 : wCode 61 ∈ tables_1 := List.mem_append_right _ (List.mem_append_left _ (List.mem_of_getElem? (i := 165) rfl))
theorem ca_61 : ∀ a, a < 62 → wCode a ∈ tables_1 := lt_s ca_60 cw_61
theorem cw_62 : wCode 62 ∈ tables_1 := List.mem_append_right _ (List.mem_append_left _ (List.mem_of_getElem? (i := 176) rfl))
theorem ca_62 : ∀ a, a < 63 → wCode a ∈ tables_1 := lt_s ca_61 cw_62
theorem cw_63 : wCode 63 ∈ tables_1 := List.mem_append_right _ (List.mem_append_left _ (List.mem_of_getElem? (i := 185) rfl))
theorem ca_63 : ∀ a, a < 64 → wCode a ∈ tables_1 := lt_s ca_62 cw_63
theorem cw_64 : wCode 64 ∈ tables_1 := List.mem_append_right _ (List.mem_append_left _ (List.mem_of_getElem? (i := 182) rfl))
theorem ca_64 : ∀ a, a < 65 → wCode a ∈ tables_1 := lt_s ca_63 cw_64
theorem cw_65 : wCode 65 ∈ tables_1 := List.mem_append_left _ (List.mem_of_getElem? (i := 131) rfl)
theorem ca_65 : ∀ a, a < 66 → wCode a ∈ tables_1 := lt_s ca_64 cw_65
theorem cw_66 : wCode 66 ∈ tables_1 := List.mem_append_right _ (List.mem_append_left _ (List.mem_of_getElem? (i := 231) rfl))
theorem ca_66 : ∀ a, a < 67 → wCode a ∈ tables_1 := lt_s ca_65 cw_66
theorem cw_67 : wCode 67 ∈ tables_1 := List.mem_append_right _ (List.mem_append_right _ (List.mem_append_left _ (List.mem_of_getElem? (i := 8) rfl)))
theorem ca_67 : ∀ a, a < 68 → wCode a ∈ tables_1 := lt_s ca_66 cw_67
theorem cw_68 : wCode 68 ∈ tables_1 := List.mem_append_right _ (List.mem_append_right _ (List.mem_append_left _ (List.mem_of_getElem? (i := 46) rfl)))
theorem ca_68 : ∀ a, a < 69 → wCode a ∈ tables_1 := lt_s ca_67 cw_68
theorem cw_69 : wCode 69 ∈ tables_1 := List.mem_append_right _ (List.mem_append_right _ (List.mem_append_left _ (List.mem_of_getElem? (i := 19) rfl)))
theorem ca_69 : ∀ a, a < 70 → wCode a ∈ tables_1 := lt_s ca_68 cw_69
theorem cw_70 : wCode 70 ∈ tables_1 := List.mem_append_right _ (List.mem_append_right _ (List.mem_append_left _ (List.mem_of_getElem? (i := 28) rfl)))
theorem ca_70 : ∀ a, a < 71 → wCode a ∈ tables_1 := lt_s ca_69 cw_70
theorem cw_71 : wCode 71 ∈ tables_1 := List.mem_append_left _ (List.mem_of_getElem? (i := 76) rfl)
theorem ca_71 : ∀ a, a < 72 → wCode a ∈ tables_1 := lt_s ca_70 cw_71
theorem cw_72 : wCode 72 ∈ tables_1 := List.mem_append_right _ (List.mem_append_left _ (List.mem_of_getElem? (i := 40) rfl))
theorem ca_72 : ∀ a, a < 73 → wCode a ∈ tables_1 := lt_s ca_71 cw_72
theorem cw_73 : wCode 73 ∈ tables_1 := List.mem_append_right _ (List.mem_append_left _ (List.mem_of_getElem? (i := 214) rfl))
theorem ca_73 : ∀ a, a < 74 → wCode a ∈ tables_1 := lt_s ca_72 cw_73
theorem cw_74 : wCode 74 ∈ tables_1 := List.mem_append_right _ (List.mem_append_left _ (List.mem_of_getElem? (i := 124) rfl))
theorem ca_74 : ∀ a, a < 75 → wCode a ∈ tables_1 := lt_s ca_73 cw_74
theorem cw_75 : wCode 75 ∈ tables_1 := List.mem_append_right _ (List.mem_append_left _ (List.mem_of_getElem? (i := 133) rfl))
theorem ca_75 : ∀ a, a < 76 → wCode a ∈ tables_1 := lt_s ca_74 cw_75
theorem cw_76 : wCode 76 ∈ tables_1 := List.mem_append_right _ (List.mem_append_left _ (List.mem_of_getElem? (i := 218) rfl))
theorem ca_76 : ∀ a, a < 77 → wCode a ∈ tables_1 := lt_s ca_75 cw_76
theorem cw_77 : wCode 77 ∈ tables_1 := List.mem_append_right _ (List.mem_append_left _ (List.mem_of_getElem? (i := 81) rfl))
theorem ca_77 : ∀ a, a < 78 → wCode a ∈ tables_1 := lt_s ca_76 cw_77
theorem cw_78 : wCode 78 ∈ tables_1 := List.mem_append_right _ (List.mem_append_left _ (List.mem_of_getElem? (i := 65) rfl))
theorem ca_78 : ∀ a, a < 79 → wCode a ∈ tables_1 := lt_s ca_77 cw_78
theorem cw_79 : wCode 79 ∈ tables_1 := List.mem_append_right _ (List.mem_append_right _ (List.mem_append_left _ (List.mem_of_getElem? (i := 174) rfl)))
theorem ca_79 : ∀ a, a < 80 → wCode a ∈ tables_1 := lt_s ca_78 cw_79
theorem cw_80 : wCode 80 ∈ tables_1 := List.mem_append_right _ (List.mem_append_left _ (List.mem_of_getElem? (i := 104) rfl))
theorem ca_80 : ∀ a, a < 81 → wCode a ∈ tables_1 := lt_s ca_79 cw_80
theorem cw_81 : wCode 81 ∈ tables_1 := List.mem_append_right _ (List.mem_append_left _ (List.mem_of_getElem? (i := 223) rfl))
theorem ca_81 : ∀ a, a < 82 → wCode a ∈ tables_1 := lt_s ca_80 cw_81
theorem cw_82 : wCode 82 ∈ tables_1 := List.mem_append_right _ (List.mem_append_left _ (List.mem_of_getElem? (i := 108) rfl))
theorem ca_82 : ∀ a, a < 83 → wCode a ∈ tables_1 := lt_s ca_81 cw_82
theorem cw_83 : wCode 83 ∈ tables_1 := List.mem_append_right _ (List.mem_append_left _ (List.mem_of_getElem? (i := 112) rfl))
theorem ca_83 : ∀ a, a < 84 → wCode a ∈ tables_1 := lt_s ca_82 cw_83
theorem cw_84 : wCode 84 ∈ tables_1 := List.mem_append_right _ (List.mem_append_left _ (List.mem_of_getElem? (i := 142) rfl))
theorem ca_84 : ∀ a, a < 85 → wCode a ∈ tables_1 := lt_s ca_83 cw_84
theorem cw_85 : wCode 85 ∈ tables_1 := List.mem_append_right _ (List.mem_append_left _ (List.mem_of_getElem? (i := 146) rfl))
theorem ca_85 : ∀ a, a < 86 → wCode a ∈ tables_1 := lt_s ca_84 cw_85
theorem cw_86 : wCode 86 ∈ tables_1 := List.mem_append_right _ (List.mem_append_right _ (List.mem_append_left _ (List.mem_of_getElem? (i := 60) rfl)))
theorem ca_86 : ∀ a, a < 87 → wCode a ∈ tables_1 := lt_s ca_85 cw_86
theorem cw_87 : wCode 87 ∈ tables_1 := List.mem_append_right _ (List.mem_append_right _ (List.mem_append_left _ (List.mem_of_getElem? (i := 151) rfl)))
theorem ca_87 : ∀ a, a < 88 → wCode a ∈ tables_1 := lt_s ca_86 cw_87
theorem cw_88 : wCode 88 ∈ tables_1 := List.mem_append_left _ (List.mem_of_getElem? (i := 20) rfl)
theorem ca_88 : ∀ a, a < 89 → wCode a ∈ tables_1 := lt_s ca_87 cw_88
theorem cw_89 : wCode 89 ∈ tables_1 := List.mem_append_left _ (List.mem_of_getElem? (i := 195) rfl)
theorem ca_89 : ∀ a, a < 90 → wCode a ∈ tables_1 := lt_s ca_88 cw_89
theorem cw_90 : wCode 90 ∈ tables_1 := List.mem_append_left _ (List.mem_of_getElem? (i := 208) rfl)
theorem ca_90 : ∀ a, a < 91 → wCode a ∈ tables_1 := lt_s ca_89 cw_90
theorem cw_91 : wCode 91 ∈ tables_1 := List.mem_append_left _ (List.mem_of_getElem? (i := 220) rfl)
theorem ca_91 : ∀ a, a < 92 → wCode a ∈ tables_1 := lt_s ca_90 cw_91
theorem cw_92 : wCode 92 ∈ tables_1 := List.mem_append_right _ (List.mem_append_left _ (List.mem_of_getElem? (i := 5) rfl))
theorem ca_92 : ∀ a, a < 93 → wCode a ∈ tables_1 := lt_s ca_91 cw_92
theorem cw_93 : wCode 93 ∈ tables_1 := List.mem_append_right _ (List.mem_append_left _ (List.mem_of_getElem? (i := 49) rfl))
theorem ca_93 : ∀ a, a < 94 → wCode a ∈ tables_1 := lt_s ca_92 cw_93
theorem cw_94 : wCode 94 ∈ tables_1 := List.mem_append_right _ (List.mem_append_left _ (List.mem_of_getElem? (i := 73) rfl))
theorem ca_94 : ∀ a, a < 95 → wCode a ∈ tables_1 := lt_s ca_93 cw_94
theorem cw_95 : wCode 95 ∈ tables_1 := List.mem_append_right _ (List.mem_append_left _ (List.mem_of_getElem? (i := 97) rfl))
theorem ca_95 : ∀ a, a < 96 → wCode a ∈ tables_1 := lt_s ca_94 cw_95
theorem cw_96 : wCode 96 ∈ tables_1 := List.mem_append_right _ (List.mem_append_left _ (List.mem_of_getElem? (i := 116) rfl))
theorem ca_96 : ∀ a, a < 97 → wCode a ∈ tables_1 := lt_s ca_95 cw_96
theorem cw_97 : wCode 97 ∈ tables_1 := List.mem_append_right _ (List.mem_append_left _ (List.mem_of_getElem? (i := 129) rfl))
theorem ca_97 : ∀ a, a < 98 → wCode a ∈ tables_1 := lt_s ca_96 cw_97
theorem cw_98 : wCode 98 ∈ tables_1 := List.mem_append_right _ (List.mem_append_left _ (List.mem_of_getElem? (i := 138) rfl))
theorem ca_98 : ∀ a, a < 99 → wCode a ∈ tables_1 := lt_s ca_97 cw_98
theorem cw_99 : wCode 99 ∈ tables_1 := List.mem_append_right _ (List.mem_append_left _ (List.mem_of_getElem? (i := 196) rfl))
theorem ca_99 : ∀ a, a < 100 → wCode a ∈ tables_1 := lt_s ca_98 cw_99
theorem cw_100 : wCode 100 ∈ tables_1 := List.mem_append_right _ (List.mem_append_left _ (List.mem_of_getElem? (i := 206) rfl))
theorem ca_100 : ∀ a, a < 101 → wCode a ∈ tables_1 := lt_s ca_99 cw_100
theorem cw_101 : wCode 101 ∈ tables_1 := List.mem_append_right _ (List.mem_append_left _ (List.mem_of_getElem? (i := 210) rfl))
theorem ca_101 : ∀ a, a < 102 → wCode a ∈ tables_1 := lt_s ca_100 cw_101
theorem cw_102 : wCode 102 ∈ tables_1 := List.mem_append_right _ (List.mem_append_left _ (List.mem_of_getElem? (i := 227) rfl))
theorem ca_102 : ∀ a, a < 103 → wCode a ∈ tables_1 := lt_s ca_101 cw_102
theorem cw_103 : wCode 103 ∈ tables_1 := List.mem_append_right _ (List.mem_append_right _ (List.mem_append_left _ (List.mem_of_getElem? (i := 4) rfl)))
theorem ca_103 : ∀ a, a < 104 → wCode a ∈ tables_1 := lt_s ca_102 cw_103
theorem cw_104 : wCode 104 ∈ tables_1 := List.mem_append_right _ (List.mem_append_right _ (List.mem_append_left _ (List.mem_of_getElem? (i := 15) rfl)))
theorem ca_104 : ∀ a, a < 105 → wCode a ∈ tables_1 := lt_s ca_103 cw_104
theorem cw_105 : wCode 105 ∈ tables_1 := List.mem_append_right _ (List.mem_append_right _ (List.mem_append_left _ (List.mem_of_getElem? (i := 42) rfl)))
theorem ca_105 : ∀ a, a < 106 → wCode a ∈ tables_1 := lt_s ca_104 cw_105
theorem cw_106 : wCode 106 ∈ tables_1 := List.mem_append_right _ (List.mem_append_right _ (List.mem_append_left _ (List.mem_of_getElem? (i := 55) rfl)))
theorem ca_106 : ∀ a, a < 107 → wCode a ∈ tables_1 := lt_s ca_105 cw_106
theorem cw_107 : wCode 107 ∈ tables_1 := List.mem_append_right _ (List.mem_append_right _ (List.mem_append_left _ (List.mem_of_getElem? (i := 69) rfl)))
theorem ca_107 : ∀ a, a < 108 → wCode a ∈ tables_1 := lt_s ca_106 cw_107
theorem cw_108 : wCode 108 ∈ tables_1 := List.mem_append_right _ (List.mem_append_right _ (List.mem_append_left _ (List.mem_of_getElem? (i := 121) rfl)))
theorem ca_108 : ∀ a, a < 109 → wCode a ∈ tables_1 := lt_s ca_107 cw_108
theorem cw_109 : wCode 109 ∈ tables_1 := List.mem_append_right _ (List.mem_append_right _ (List.mem_append_left _ (List.mem_of_getElem? (i := 132) rfl)))
theorem ca_109 : ∀ a, a < 110 → wCode a ∈ tables_1 := lt_s ca_108 cw_109
theorem cw_110 : wCode 110 ∈ tables_1 := List.mem_append_right _ (List.mem_append_right _ (List.mem_append_left _ (List.mem_of_getElem? (i := 216) rfl)))
theorem ca_110 : ∀ a, a < 111 → wCode a ∈ tables_1 := lt_s ca_109 cw_110
theorem cw_111 : wCode 111 ∈ tables_1 := List.mem_append_right _ (List.mem_append_right _ (List.mem_append_left _ (List.mem_of_getElem? (i := 228) rfl)))
theorem ca_111 : ∀ a, a < 112 → wCode a ∈ tables_1 := lt_s ca_110 cw_111
theorem cw_112 : wCode 112 ∈ tables_1 := List.mem_append_right _ (List.mem_append_right _ (List.mem_append_left _ (List.mem_of_getElem? (i := 232) rfl)))
theorem ca_112 : ∀ a, a < 113 → wCode a ∈ tables_1 := lt_s ca_111 cw_112
theorem cw_113 : wCode 113 ∈ tables_1 := List.mem_append_right _ (List.mem_append_right _ (List.mem_append_left _ (List.mem_of_getElem? (i := 236) rfl)))
theorem ca_113 : ∀ a, a < 114 → wCode a ∈ tables_1 := lt_s ca_112 cw_113
theorem cw_114 : wCode 114 ∈ tables_1 := List.mem_append_right _ (List.mem_append_right _ (List.mem_append_right _ (List.mem_append_left _ (List.mem_of_getElem? (i := 0) rfl))))
theorem ca_114 : ∀ a, a < 115 → wCode a ∈ tables_1 := lt_s ca_113 cw_114
theorem cw_115 : wCode 115 ∈ tables_1 := List.mem_append_right _ (List.mem_append_left _ (List.mem_of_getElem? (i := 77) rfl))
theorem ca_115 : ∀ a, a < 116 → wCode a ∈ tables_1 := lt_s ca_114 cw_115
theorem cw_116 : wCode 116 ∈ tables_1 := List.mem_append_right _ (List.mem_append_left _ (List.mem_of_getElem? (i := 53) rfl))
theorem ca_116 : ∀ a, a < 117 → wCode a ∈ tables_1 := lt_s ca_115 cw_116
theorem cw_117 : wCode 117 ∈ tables_1 := List.mem_append_right _ (List.mem_append_left _ (List.mem_of_getElem? (i := 100) rfl))
theorem ca_117 : ∀ a, a < 118 → wCode a ∈ tables_1 := lt_s ca_116 cw_117
theorem cw_118 : wCode 118 ∈ tables_1 := List.mem_append_right _ (List.mem_append_right _ (List.mem_append_left _ (List.mem_of_getElem? (i := 72) rfl)))
theorem ca_118 : ∀ a, a < 119 → wCode a ∈ tables_1 := lt_s ca_117 cw_118
theorem cw_119 : wCode 119 ∈ tables_1 := List.mem_append_right _ (List.mem_append_left _ (List.mem_of_getElem? (i := 120) rfl))
theorem ca_119 : ∀ a, a < 120 → wCode a ∈ tables_1 := lt_s ca_118 cw_119
theorem cw_120 : wCode 120 ∈ tables_1 := List.mem_append_right _ (List.mem_append_right _ (List.mem_append_left _ (List.mem_of_getElem? (i := 125) rfl)))
theorem ca_120 : ∀ a, a < 121 → wCode a ∈ tables_1 := lt_s ca_119 cw_120
theorem cw_121 : wCode 121 ∈ tables_1 := List.mem_append_right _ (List.mem_append_right _ (List.mem_append_left _ (List.mem_of_getElem? (i := 75) rfl)))
theorem ca_121 : ∀ a, a < 122 → wCode a ∈ tables_1 := lt_s ca_120 cw_121
theorem cw_122 : wCode 122 ∈ tables_1 := List.mem_append_right _ (List.mem_append_right _ (List.mem_append_left _ (List.mem_of_getElem? (i := 128) rfl)))
theorem ca_122 : ∀ a, a < 123 → wCode a ∈ tables_1 := lt_s ca_121 cw_122
theorem cw_123 : wCode 123 ∈ tables_1 := List.mem_append_right _ (List.mem_append_right _ (List.mem_append_left _ (List.mem_of_getElem? (i := 220) rfl)))
theorem ca_123 : ∀ a, a < 124 → wCode a ∈ tables_1 := lt_s ca_122 cw_123
theorem cw_124 : wCode 124 ∈ tables_1 := List.mem_append_right _ (List.mem_append_left _ (List.mem_of_getElem? (i := 169) rfl))
theorem ca_124 : ∀ a, a < 125 → wCode a ∈ tables_1 := lt_s ca_123 cw_124
theorem cw_125 : wCode 125 ∈ tables_1 := List.mem_append_right _ (List.mem_append_right _ (List.mem_append_left _ (List.mem_of_getElem? (i := 65) rfl)))
theorem ca_125 : ∀ a, a < 126 → wCode a ∈ tables_1 := lt_s ca_124 cw_125
theorem cw_126 : wCode 126 ∈ tables_1 := List.mem_append_left _ (List.mem_of_getElem? (i := 106) rfl)
theorem ca_126 : ∀ a, a < 127 → wCode a ∈ tables_1 := lt_s ca_125 cw_126
theorem cw_127 : wCode 127 ∈ tables_1 := List.mem_append_left _ (List.mem_of_getElem? (i := 109) rfl)
theorem ca_127 : ∀ a, a < 128 → wCode a ∈ tables_1 := lt_s ca_126 cw_127
theorem cw_128 : wCode 128 ∈ tables_1 := List.mem_append_right _ (List.mem_append_right _ (List.mem_append_right _ (List.mem_append_left _ (List.mem_of_getElem? (i := 35) rfl))))
theorem ca_128 : ∀ a, a < 129 → wCode a ∈ tables_1 := lt_s ca_127 cw_128
theorem cw_129 : wCode 129 ∈ tables_1 := List.mem_append_right _ (List.mem_append_right _ (List.mem_append_right _ (List.mem_append_left _ (List.mem_of_getElem? (i := 206) rfl))))
theorem ca_129 : ∀ a, a < 130 → wCode a ∈ tables_1 := lt_s ca_128 cw_129
theorem cw_130 : wCode 130 ∈ tables_1 := List.mem_append_right _ (List.mem_append_right _ (List.mem_append_right _ (List.mem_append_right _ ((List.mem_of_getElem? (i := 9) rfl)))))
theorem ca_130 : ∀ a, a < 131 → wCode a ∈ tables_1 := lt_s ca_129 cw_130
theorem cw_131 : wCode 131 ∈ tables_1 := List.mem_append_right _ (List.mem_append_right _ (List.mem_append_right _ (List.mem_append_left _ (List.mem_of_getElem? (i := 186) rfl))))
theorem ca_131 : ∀ a, a < 132 → wCode a ∈ tables_1 := lt_s ca_130 cw_131
theorem cw_132 : wCode 132 ∈ tables_1 := List.mem_append_right _ (List.mem_append_right _ (List.mem_append_right _ (List.mem_append_left _ (List.mem_of_getElem? (i := 191) rfl))))
theorem ca_132 : ∀ a, a < 133 → wCode a ∈ tables_1 := lt_s ca_131 cw_132
theorem cw_133 : wCode 133 ∈ tables_1 := List.mem_append_right _ (List.mem_append_right _ (List.mem_append_right _ (List.mem_append_left _ (List.mem_of_getElem? (i := 203) rfl))))
theorem ca_133 : ∀ a, a < 134 → wCode a ∈ tables_1 := lt_s ca_132 cw_133
theorem cw_134 : wCode 134 ∈ tables_1 := List.mem_append_right _ (List.mem_append_right _ (List.mem_append_right _ (List.mem_append_left _ (List.mem_of_getElem? (i := 210) rfl))))
theorem ca_134 : ∀ a, a < 135 → wCode a ∈ tables_1 := lt_s ca_133 cw_134
theorem cw_135 : wCode 135 ∈ tables_1 := List.mem_append_right _ (List.mem_append_right _ (List.mem_append_right _ (List.mem_append_left _ (List.mem_of_getElem? (i := 199) rfl))))
theorem ca_135 : ∀ a, a < 136 → wCode a ∈ tables_1 := lt_s ca_134 cw_135
theorem cw_136 : wCode 136 ∈ tables_1 := List.mem_append_right _ (List.mem_append_right _ (List.mem_append_right _ (List.mem_append_left _ (List.mem_of_getElem? (i := 195) rfl))))
theorem ca_136 : ∀ a, a < 137 → wCode a ∈ tables_1 := lt_s ca_135 cw_136
theorem cw_137 : wCode 137 ∈ tables_1 := List.mem_append_right _ (List.mem_append_right _ (List.mem_append_right _ (List.mem_append_left _ (List.mem_of_getElem? (i := 214) rfl))))
theorem ca_137 : ∀ a, a < 138 → wCode a ∈ tables_1 := lt_s ca_136 cw_137
theorem cw_138 : wCode 138 ∈ tables_1 := List.mem_append_right _ (List.mem_append_right _ (List.mem_append_right _ (List.mem_append_left _ (List.mem_of_getElem? (i := 222) rfl))))
theorem ca_138 : ∀ a, a < 139 → wCode a ∈ tables_1 := lt_s ca_137 cw_138
theorem cw_139 : wCode 139 ∈ tables_1 := List.mem_append_right _ (List.mem_append_right _ (List.mem_append_right _ (List.mem_append_left _ (List.mem_of_getElem? (i := 226) rfl))))
theorem ca_139 : ∀ a, a < 140 → wCode a ∈ tables_1 := lt_s ca_138 cw_139
theorem cw_140 : wCode 140 ∈ tables_1 := List.mem_append_right _ (List.mem_append_right _ (List.mem_append_right _ (List.mem_append_left _ (List.mem_of_getElem? (i := 218) rfl))))
theorem ca_140 : ∀ a, a < 141 → wCode a ∈ tables_1 := lt_s ca_139 cw_140
theorem cw_141 : wCode 141 ∈ tables_1 := List.mem_append_right _ (List.mem_append_right _ (List.mem_append_right _ (List.mem_append_right _ ((List.mem_of_getElem? (i := 6) rfl)))))
theorem ca_141 : ∀ a, a < 142 → wCode a ∈ tables_1 := lt_s ca_140 cw_141
theorem cw_142 : wCode 142 ∈ tables_1 := List.mem_append_right _ (List.mem_append_right _ (List.mem_append_right _ (List.mem_append_right _ ((List.mem_of_getElem? (i := 2) rfl)))))
theorem ca_142 : ∀ a, a < 143 → wCode a ∈ tables_1 := lt_s ca_141 cw_142
theorem cw_143 : wCode 143 ∈ tables_1 := List.mem_append_right _ (List.mem_append_right _ (List.mem_append_right _ (List.mem_append_left _ (List.mem_of_getElem? (i := 238) rfl))))
theorem ca_143 : ∀ a, a < 144 → wCode a ∈ tables_1 := lt_s ca_142 cw_143
theorem cw_144 : wCode 144 ∈ tables_1 := List.mem_append_right _ (List.mem_append_right _ (List.mem_append_right _ (List.mem_append_left _ (List.mem_of_getElem? (i := 234) rfl))))
theorem ca_144 : ∀ a, a < 145 → wCode a ∈ tables_1 := lt_s ca_143 cw_144
theorem cw_145 : wCode 145 ∈ tables_1 := List.mem_append_right _ (List.mem_append_right _ (List.mem_append_right _ (List.mem_append_left _ (List.mem_of_getElem? (i := 230) rfl))))
theorem ca_145 : ∀ a, a < 146 → wCode a ∈ tables_1 := lt_s ca_144 cw_145
theorem cw_146 : wCode 146 ∈ tables_1 := List.mem_append_right _ (List.mem_append_right _ (List.mem_append_right _ (List.mem_append_right _ ((List.mem_of_getElem? (i := 24) rfl)))))
theorem ca_146 : ∀ a, a < 147 → wCode a ∈ tables_1 := lt_s ca_145 cw_146
theorem cw_147 : wCode 147 ∈ tables_1 := List.mem_append_right _ (List.mem_append_right _ (List.mem_append_right _ (List.mem_append_right _ ((List.mem_of_getElem? (i := 28) rfl)))))
theorem ca_147 : ∀ a, a < 148 → wCode a ∈ tables_1 := lt_s ca_146 cw_147
theorem cw_148 : wCode 148 ∈ tables_1 := List.mem_append_right _ (List.mem_append_right _ (List.mem_append_right _ (List.mem_append_right _ ((List.mem_of_getElem? (i := 35) rfl)))))
theorem ca_148 : ∀ a, a < 149 → wCode a ∈ tables_1 := lt_s ca_147 cw_148
theorem cw_149 : wCode 149 ∈ tables_1 := List.mem_append_right _ (List.mem_append_right _ (List.mem_append_right _ (List.mem_append_right _ ((List.mem_of_getElem? (i := 32) rfl)))))
theorem ca_149 : ∀ a, a < 150 → wCode a ∈ tables_1 := lt_s ca_148 cw_149
theorem cw_150 : wCode 150 ∈ tables_1 := List.mem_append_right _ (List.mem_append_right _ (List.mem_append_right _ (List.mem_append_right _ ((List.mem_of_getElem? (i := 20) rfl)))))
theorem ca_150 : ∀ a, a < 151 → wCode a ∈ tables_1 := lt_s ca_149 cw_150
theorem cw_151 : wCode 151 ∈ tables_1 := List.mem_append_right _ (List.mem_append_right _ (List.mem_append_right _ (List.mem_append_right _ ((List.mem_of_getElem? (i := 16) rfl)))))
theorem ca_151 : ∀ a, a < 152 → wCode a ∈ tables_1 := lt_s ca_150 cw_151
theorem cw_152 : wCode 152 ∈ tables_1 := List.mem_append_right _ (List.mem_append_right _ (List.mem_append_right _ (List.mem_append_right _ ((List.mem_of_getElem? (i := 13) rfl)))))
theorem ca_152 : ∀ a, a < 153 → wCode a ∈ tables_1 := lt_s ca_151 cw_152
theorem cw_153 : wCode 153 ∈ tables_1 := List.mem_append_right _ (List.mem_append_right _ (List.mem_append_right _ (List.mem_append_right _ ((List.mem_of_getElem? (i := 47) rfl)))))
theorem ca_153 : ∀ a, a < 154 → wCode a ∈ tables_1 := lt_s ca_152 cw_153
theorem cw_154 : wCode 154 ∈ tables_1 := List.mem_append_right _ (List.mem_append_right _ (List.mem_append_right _ (List.mem_append_right _ ((List.mem_of_getElem? (i := 43) rfl)))))
theorem ca_154 : ∀ a, a < 155 → wCode a ∈ tables_1 := lt_s ca_153 cw_154
theorem cw_155 : wCode 155 ∈ tables_1 := List.mem_append_right _ (List.mem_append_right _ (List.mem_append_right _ (List.mem_append_right _ ((List.mem_of_getElem? (i := 39) rfl)))))
theorem ca_155 : ∀ a, a < 156 → wCode a ∈ tables_1 := lt_s ca_154 cw_155
theorem cw_156 : wCode 156 ∈ tables_1 := List.mem_append_right _ (List.mem_append_right _ (List.mem_append_right _ (List.mem_append_right _ ((List.mem_of_getElem? (i := 51) rfl)))))
theorem ca_156 : ∀ a, a < 157 → wCode a ∈ tables_1 := lt_s ca_155 cw_156
theorem cw_157 : wCode 157 ∈ tables_1 := List.mem_append_right _ (List.mem_append_right _ (List.mem_append_right _ (List.mem_append_right _ ((List.mem_of_getElem? (i := 55) rfl)))))
theorem ca_157 : ∀ a, a < 158 → wCode a ∈ tables_1 := lt_s ca_156 cw_157
theorem cw_158 : wCode 158 ∈ tables_1 := List.mem_append_right _ (List.mem_append_right _ (List.mem_append_right _ (List.mem_append_right _ ((List.mem_of_getElem? (i := 59) rfl)))))
theorem ca_158 : ∀ a, a < 159 → wCode a ∈ tables_1 := lt_s ca_157 cw_158
theorem cw_159 : wCode 159 ∈ tables_1 := List.mem_append_right _ (List.mem_append_right _ (List.mem_append_right _ (List.mem_append_right _ ((List.mem_of_getElem? (i := 63) rfl)))))
theorem ca_159 : ∀ a, a < 160 → wCode a ∈ tables_1 := lt_s ca_158 cw_159
theorem cw_160 : wCode 160 ∈ tables_1 := List.mem_append_right _ (List.mem_append_right _ (List.mem_append_right _ (List.mem_append_right _ ((List.mem_of_getElem? (i := 71) rfl)))))
theorem ca_160 : ∀ a, a < 161 → wCode a ∈ tables_1 := lt_s ca_159 cw_160
theorem cw_161 : wCode 161 ∈ tables_1 := List.mem_append_right _ (List.mem_append_right _ (List.mem_append_right _ (List.mem_append_right _ ((List.mem_of_getElem? (i := 75) rfl)))))
theorem ca_161 : ∀ a, a < 162 → wCode a ∈ tables_1 := lt_s ca_160 cw_161
theorem cw_162 : wCode 162 ∈ tables_1 := List.mem_append_right _ (List.mem_append_right _ (List.mem_append_right _ (List.mem_append_right _ ((List.mem_of_getElem? (i := 67) rfl)))))
theorem ca_162 : ∀ a, a < 163 → wCode a ∈ tables_1 := lt_s ca_161 cw_162
theorem cw_163 : wCode 163 ∈ tables_1 := List.mem_append_right _ (List.mem_append_right _ (List.mem_append_right _ (List.mem_append_right _ ((List.mem_of_getElem? (i := 83) rfl)))))
theorem ca_163 : ∀ a, a < 164 → wCode a ∈ tables_1 := lt_s ca_162 cw_163
theorem cw_164 : wCode 164 ∈ tables_1 := List.mem_append_right _ (List.mem_append_right _ (List.mem_append_right _ (List.mem_append_right _ ((List.mem_of_getElem? (i := 79) rfl)))))
theorem ca_164 : ∀ a, a < 165 → wCode a ∈ tables_1 := lt_s ca_163 cw_164
theorem cw_165 : wCode 165 ∈ tables_1 := List.mem_append_right _ (List.mem_append_right _ (List.mem_append_right _ (List.mem_append_right _ ((List.mem_of_getElem? (i := 94) rfl)))))
theorem ca_165 : ∀ a, a < 166 → wCode a ∈ tables_1 := lt_s ca_164 cw_165
theorem cw_166 : wCode 166 ∈ tables_1 := List.mem_append_right _ (List.mem_append_right _ (List.mem_append_right _ (List.mem_append_right _ ((List.mem_of_getElem? (i := 91) rfl)))))
theorem ca_166 : ∀ a, a < 167 → wCode a ∈ tables_1 := lt_s ca_165 cw_166
theorem cw_167 : wCode 167 ∈ tables_1 := List.mem_append_right _ (List.mem_append_right _ (List.mem_append_right _ (List.mem_append_right _ ((List.mem_of_getElem? (i := 87) rfl)))))
theorem ca_167 : ∀ a, a < 168 → wCode a ∈ tables_1 := lt_s ca_166 cw_167
theorem cw_168 : wCode 168 ∈ tables_1 := List.mem_append_right _ (List.mem_append_right _ (List.mem_append_right _ (List.mem_append_right _ ((List.mem_of_getElem? (i := 106) rfl)))))
theorem ca_168 : ∀ a, a < 169 → wCode a ∈ tables_1 := lt_s ca_167 cw_168
theorem cw_169 : wCode 169 ∈ tables_1 := List.mem_append_right _ (List.mem_append_right _ (List.mem_append_right _ (List.mem_append_right _ ((List.mem_of_getElem? (i := 102) rfl)))))
theorem ca_169 : ∀ a, a < 170 → wCode a ∈ tables_1 := lt_s ca_168 cw_169
theorem cw_170 : wCode 170 ∈ tables_1 := List.mem_append_right _ (List.mem_append_right _ (List.mem_append_right _ (List.mem_append_right _ ((List.mem_of_getElem? (i := 98) rfl)))))
theorem ca_170 : ∀ a, a < 171 → wCode a ∈ tables_1 := lt_s ca_169 cw_170
theorem cw_171 : wCode 171 ∈ tables_1 := List.mem_append_right _ (List.mem_append_right _ (List.mem_append_right _ (List.mem_append_right _ ((List.mem_of_getElem? (i := 114) rfl)))))
theorem ca_171 : ∀ a, a < 172 → wCode a ∈ tables_1 := lt_s ca_170 cw_171
theorem cw_172 : wCode 172 ∈ tables_1 := List.mem_append_right _ (List.mem_append_right _ (List.mem_append_right _ (List.mem_append_right _ ((List.mem_of_getElem? (i := 110) rfl)))))
theorem ca_172 : ∀ a, a < 173 → wCode a ∈ tables_1 := lt_s ca_171 cw_172
theorem cw_173 : wCode 173 ∈ tables_1 := List.mem_append_right _ (List.mem_append_right _ (List.mem_append_right _ (List.mem_append_right _ ((List.mem_of_getElem? (i := 130) rfl)))))
theorem ca_173 : ∀ a, a < 174 → wCode a ∈ tables_1 := lt_s ca_172 cw_173
theorem cw_174 : wCode 174 ∈ tables_1 := List.mem_append_right _ (List.mem_append_right _ (List.mem_append_right _ (List.mem_append_right _ ((List.mem_of_getElem? (i := 127) rfl)))))
theorem ca_174 : ∀ a, a < 175 → wCode a ∈ tables_1 := lt_s ca_173 cw_174
theorem cw_175 : wCode 175 ∈ tables_1 := List.mem_append_right _ (List.mem_append_right _ (List.mem_append_right _ (List.mem_append_right _ ((List.mem_of_getElem? (i := 134) rfl)))))
theorem ca_175 : ∀ a, a < 176 → wCode a ∈ tables_1 := lt_s ca_174 cw_175
theorem cw_176 : wCode 176 ∈ tables_1 := List.mem_append_right _ (List.mem_append_right _ (List.mem_append_right _ (List.mem_append_right _ ((List.mem_of_getElem? (i := 138) rfl)))))
theorem ca_176 : ∀ a, a < 177 → wCode a ∈ tables_1 := lt_s ca_175 cw_176
theorem cw_177 : wCode 177 ∈ tables_1 := List.mem_append_right _ (List.mem_append_right _ (List.mem_append_right _ (List.mem_append_right _ ((List.mem_of_getElem? (i := 123) rfl)))))
theorem ca_177 : ∀ a, a < 178 → wCode a ∈ tables_1 := lt_s ca_176 cw_177
theorem cw_178 : wCode 178 ∈ tables_1 := List.mem_append_right _ (List.mem_append_right _ (List.mem_append_right _ (List.mem_append_right _ ((List.mem_of_getElem? (i := 119) rfl)))))
theorem ca_178 : ∀ a, a < 179 → wCode a ∈ tables_1 := lt_s ca_177 cw_178
theorem cw_179 : wCode 179 ∈ tables_1 := List.mem_append_right _ (List.mem_append_right _ (List.mem_append_right _ (List.mem_append_right _ ((List.mem_of_getElem? (i := 142) rfl)))))
theorem ca_179 : ∀ a, a < 180 → wCode a ∈ tables_1 := lt_s ca_178 cw_179
theorem cw_180 : wCode 180 ∈ tables_1 := List.mem_append_right _ (List.mem_append_right _ (List.mem_append_right _ (List.mem_append_right _ ((List.mem_of_getElem? (i := 150) rfl)))))
theorem ca_180 : ∀ a, a < 181 → wCode a ∈ tables_1 := lt_s ca_179 cw_180
theorem cw_181 : wCode 181 ∈ tables_1 := List.mem_append_right _ (List.mem_append_right _ (List.mem_append_right _ (List.mem_append_right _ ((List.mem_of_getElem? (i := 146) rfl)))))
theorem ca_181 : ∀ a, a < 182 → wCode a ∈ tables_1 := lt_s ca_180 cw_181
theorem cw_182 : wCode 182 ∈ tables_1 := List.mem_append_right _ (List.mem_append_right _ (List.mem_append_right _ (List.mem_append_right _ ((List.mem_of_getElem? (i := 182) rfl)))))
theorem ca_182 : ∀ a, a < 183 → wCode a ∈ tables_1 := lt_s ca_181 cw_182
theorem cw_183 : wCode 183 ∈ tables_1 := List.mem_append_right _ (List.mem_append_right _ (List.mem_append_right _ (List.mem_append_right _ ((List.mem_of_getElem? (i := 162) rfl)))))
theorem ca_183 : ∀ a, a < 184 → wCode a ∈ tables_1 := lt_s ca_182 cw_183
theorem cw_184 : wCode 184 ∈ tables_1 := List.mem_append_right _ (List.mem_append_right _ (List.mem_append_right _ (List.mem_append_right _ ((List.mem_of_getElem? (i := 170) rfl)))))
theorem ca_184 : ∀ a, a < 185 → wCode a ∈ tables_1 := lt_s ca_183 cw_184
theorem cw_185 : wCode 185 ∈ tables_1 := List.mem_append_right _ (List.mem_append_right _ (List.mem_append_right _ (List.mem_append_right _ ((List.mem_of_getElem? (i := 174) rfl)))))
theorem ca_185 : ∀ a, a < 186 → wCode a ∈ tables_1 := lt_s ca_184 cw_185
theorem cw_186 : wCode 186 ∈ tables_1 := List.mem_append_right _ (List.mem_append_right _ (List.mem_append_right _ (List.mem_append_right _ ((List.mem_of_getElem? (i := 166) rfl)))))
theorem ca_186 : ∀ a, a < 187 → wCode a ∈ tables_1 := lt_s ca_185 cw_186
theorem cw_187 : wCode 187 ∈ tables_1 := List.mem_append_right _ (List.mem_append_right _ (List.mem_append_right _ (List.mem_append_right _ ((List.mem_of_getElem? (i := 178) rfl)))))
theorem ca_187 : ∀ a, a < 188 → wCode a ∈ tables_1 := lt_s ca_186 cw_187
theorem cw_188 : wCode 188 ∈ tables_1 := List.mem_append_right _ (List.mem_append_right _ (List.mem_append_right _ (List.mem_append_right _ ((List.mem_of_getElem? (i := 158) rfl)))))
theorem ca_188 : ∀ a, a < 189 → wCode a ∈ tables_1 := lt_s ca_187 cw_188
theorem cw_189 : wCode 189 ∈ tables_1 := List.mem_append_right _ (List.mem_append_right _ (List.mem_append_right _ (List.mem_append_right _ ((List.mem_of_getElem? (i := 154) rfl)))))
theorem ca_189 : ∀ a, a < 190 → wCode a ∈ tables_1 := lt_s ca_188 cw_189
theorem cw_190 : wCode 190 ∈ tables_1 := List.mem_append_right _ (List.mem_append_right _ (List.mem_append_right _ (List.mem_append_right _ ((List.mem_of_getElem? (i := 194) rfl)))))
theorem ca_190 : ∀ a, a < 191 → wCode a ∈ tables_1 := lt_s ca_189 cw_190
theorem cw_191 : wCode 191 ∈ tables_1 := List.mem_append_right _ (List.mem_append_right _ (List.mem_append_right _ (List.mem_append_right _ ((List.mem_of_getElem? (i := 190) rfl)))))
theorem ca_191 : ∀ a, a < 192 → wCode a ∈ tables_1 := lt_s ca_190 cw_191
theorem cw_192 : wCode 192 ∈ tables_1 := List.mem_append_right _ (List.mem_append_right _ (List.mem_append_right _ (List.mem_append_right _ ((List.mem_of_getElem? (i := 198) rfl)))))
theorem ca_192 : ∀ a, a < 193 → wCode a ∈ tables_1 := lt_s ca_191 cw_192
theorem cw_193 : wCode 193 ∈ tables_1 := List.mem_append_right _ (List.mem_append_right _ (List.mem_append_right _ (List.mem_append_right _ ((List.mem_of_getElem? (i := 202) rfl)))))
theorem ca_193 : ∀ a, a < 194 → wCode a ∈ tables_1 := lt_s ca_192 cw_193
theorem cw_194 : wCode 194 ∈ tables_1 := List.mem_append_right _ (List.mem_append_right _ (List.mem_append_right _ (List.mem_append_right _ ((List.mem_of_getElem? (i := 210) rfl)))))
theorem ca_194 : ∀ a, a < 195 → wCode a ∈ tables_1 := lt_s ca_193 cw_194
theorem cw_195 : wCode 195 ∈ tables_1 := List.mem_append_right _ (List.mem_append_right _ (List.mem_append_right _ (List.mem_append_right _ ((List.mem_of_getElem? (i := 206) rfl)))))
theorem ca_195 : ∀ a, a < 196 → wCode a ∈ tables_1 := lt_s ca_194 cw_195
theorem cw_196 : wCode 196 ∈ tables_1 := List.mem_append_right _ (List.mem_append_right _ (List.mem_append_right _ (List.mem_append_right _ ((List.mem_of_getElem? (i := 219) rfl)))))
theorem ca_196 : ∀ a, a < 197 → wCode a ∈ tables_1 := lt_s ca_195 cw_196
theorem cw_197 : wCode 197 ∈ tables_1 := List.mem_append_right _ (List.mem_append_right _ (List.mem_append_right _ (List.mem_append_right _ ((List.mem_of_getElem? (i := 224) rfl)))))
theorem ca_197 : ∀ a, a < 198 → wCode a ∈ tables_1 := lt_s ca_196 cw_197
theorem cw_198 : wCode 198 ∈ tables_1 := List.mem_append_right _ (List.mem_append_right _ (List.mem_append_right _ (List.mem_append_right _ ((List.mem_of_getElem? (i := 214) rfl)))))
theorem ca_198 : ∀ a, a < 199 → wCode a ∈ tables_1 := lt_s ca_197 cw_198
theorem cw_199 : wCode 199 ∈ tables_1 := List.mem_append_right _ (List.mem_append_left _ (List.mem_of_getElem? (i := 158) rfl))
theorem ca_199 : ∀ a, a < 200 → wCode a ∈ tables_1 := lt_s ca_198 cw_199
theorem cw_200 : wCode 200 ∈ tables_1 := List.mem_append_right _ (List.mem_append_left _ (List.mem_of_getElem? (i := 189) rfl))
theorem ca_200 : ∀ a, a < 201 → wCode a ∈ tables_1 := lt_s ca_199 cw_200
theorem cw_201 : wCode 201 ∈ tables_1 := List.mem_append_right _ (List.mem_append_left _ (List.mem_of_getElem? (i := 192) rfl))
theorem ca_201 : ∀ a, a < 202 → wCode a ∈ tables_1 := lt_s ca_200 cw_201
theorem wCode_in {k : Nat} (hk : k < 202) : wCode k ∈ tblG := List.mem_filter.mpr ⟨List.mem_append_left _ (List.mem_append_right _ (ca_201 k hk)), rfl⟩
theorem lay_0 : (List.range 0).all (fun k => tAt (([] : List Nat).getD k 0) (u_lay RX0 TX0 k)) = true := by decide +kernel
theorem inX_0 : ∀ w ∈ u_ws RX0 TX0 0, w ∈ tblG := by
  intro w hw
  obtain ⟨k, hk, rfl⟩ := List.mem_map.mp hw
  exact tAt_in (List.all_eq_true.mp lay_0 k hk)
theorem lay_1 : (List.range 0).all (fun k => tAt (([] : List Nat).getD k 0) (u_lay RX1 TX1 k)) = true := by decide +kernel
theorem inX_1 : ∀ w ∈ u_ws RX1 TX1 0, w ∈ tblG := by
  intro w hw
  obtain ⟨k, hk, rfl⟩ := List.mem_map.mp hw
  exact tAt_in (List.all_eq_true.mp lay_1 k hk)
theorem lay_2 : (List.range 2).all (fun k => tAt (([634, 635] : List Nat).getD k 0) (u_lay RX2 TX2 k)) = true := by decide +kernel
theorem inX_2 : ∀ w ∈ u_ws RX2 TX2 2, w ∈ tblG := by
  intro w hw
  obtain ⟨k, hk, rfl⟩ := List.mem_map.mp hw
  exact tAt_in (List.all_eq_true.mp lay_2 k hk)
theorem lay_3 : (List.range 1).all (fun k => tAt (([196] : List Nat).getD k 0) (u_lay RX3 TX3 k)) = true := by decide +kernel
theorem inX_3 : ∀ w ∈ u_ws RX3 TX3 1, w ∈ tblG := by
  intro w hw
  obtain ⟨k, hk, rfl⟩ := List.mem_map.mp hw
  exact tAt_in (List.all_eq_true.mp lay_3 k hk)
theorem lay_4 : (List.range 2).all (fun k => tAt (([623, 625] : List Nat).getD k 0) (u_lay RX4 TX4 k)) = true := by decide +kernel
theorem inX_4 : ∀ w ∈ u_ws RX4 TX4 2, w ∈ tblG := by
  intro w hw
  obtain ⟨k, hk, rfl⟩ := List.mem_map.mp hw
  exact tAt_in (List.all_eq_true.mp lay_4 k hk)
theorem lay_5 : (List.range 8).all (fun k => tAt (([104, 106, 108, 110, 112, 114, 116, 118] : List Nat).getD k 0) (u_lay RX5 TX5 k)) = true := by decide +kernel
theorem inX_5 : ∀ w ∈ u_ws RX5 TX5 8, w ∈ tblG := by
  intro w hw
  obtain ⟨k, hk, rfl⟩ := List.mem_map.mp hw
  exact tAt_in (List.all_eq_true.mp lay_5 k hk)
theorem lay_6 : (List.range 3).all (fun k => tAt (([82, 84, 86] : List Nat).getD k 0) (u_lay RX6 TX6 k)) = true := by decide +kernel
theorem inX_6 : ∀ w ∈ u_ws RX6 TX6 3, w ∈ tblG := by
  intro w hw
  obtain ⟨k, hk, rfl⟩ := List.mem_map.mp hw
  exact tAt_in (List.all_eq_true.mp lay_6 k hk)
theorem lay_7 : (List.range 0).all (fun k => tAt (([] : List Nat).getD k 0) (u_lay RX7 TX7 k)) = true := by decide +kernel
theorem inX_7 : ∀ w ∈ u_ws RX7 TX7 0, w ∈ tblG := by
  intro w hw
  obtain ⟨k, hk, rfl⟩ := List.mem_map.mp hw
  exact tAt_in (List.all_eq_true.mp lay_7 k hk)
theorem lay_8 : (List.range 5).all (fun k => tAt (([164, 166, 168, 170, 172] : List Nat).getD k 0) (u_lay RX8 TX8 k)) = true := by decide +kernel
theorem inX_8 : ∀ w ∈ u_ws RX8 TX8 5, w ∈ tblG := by
  intro w hw
  obtain ⟨k, hk, rfl⟩ := List.mem_map.mp hw
  exact tAt_in (List.all_eq_true.mp lay_8 k hk)
theorem lay_9 : (List.range 2).all (fun k => tAt (([184, 186] : List Nat).getD k 0) (u_lay RX9 TX9 k)) = true := by decide +kernel
theorem inX_9 : ∀ w ∈ u_ws RX9 TX9 2, w ∈ tblG := by
  intro w hw
  obtain ⟨k, hk, rfl⟩ := List.mem_map.mp hw
  exact tAt_in (List.all_eq_true.mp lay_9 k hk)
theorem lay_10 : (List.range 6).all (fun k => tAt (([133, 135, 137, 139, 141, 143] : List Nat).getD k 0) (u_lay RX10 TX10 k)) = true := by decide +kernel
theorem inX_10 : ∀ w ∈ u_ws RX10 TX10 6, w ∈ tblG := by
  intro w hw
  obtain ⟨k, hk, rfl⟩ := List.mem_map.mp hw
  exact tAt_in (List.all_eq_true.mp lay_10 k hk)
theorem lay_11 : (List.range 13).all (fun k => tAt (([214, 216, 218, 220, 222, 224, 226, 228, 230, 232, 234, 236, 238] : List Nat).getD k 0) (u_lay RX11 TX11 k)) = true := by decide +kernel
theorem inX_11 : ∀ w ∈ u_ws RX11 TX11 13, w ∈ tblG := by
  intro w hw
  obtain ⟨k, hk, rfl⟩ := List.mem_map.mp hw
  exact tAt_in (List.all_eq_true.mp lay_11 k hk)
theorem lay_12 : (List.range 47).all (fun k => tAt (([855, 857, 859, 861, 863, 865, 867, 869, 871, 873, 875, 877, 879, 881, 883, 885, 887, 889, 891, 893, 895, 897, 899, 901, 903, 905, 907, 909, 911, 913, 915, 917, 919, 921, 923, 925, 927, 929, 931, 933, 935, 937, 939, 941, 943, 945, 947] : List Nat).getD k 0) (u_lay RX12 TX12 k)) = true := by decide +kernel
theorem inX_12 : ∀ w ∈ u_ws RX12 TX12 47, w ∈ tblG := by
  intro w hw
  obtain ⟨k, hk, rfl⟩ := List.mem_map.mp hw
  exact tAt_in (List.all_eq_true.mp lay_12 k hk)
abbrev FLE : Type := Nat × Nat × Nat × Nat × Nat
/-- (position, own class, pool index, declaring class, slot) -/
def flT : List FLE := [(195, 3, 7, 3, 0), (621, 4, 9, 4, 0), (622, 4, 15, 4, 1), (96, 5, 9, 5, 0), (97, 5, 15, 5, 1), (98, 5, 18, 5, 2), (99, 5, 21, 5, 3), (100, 5, 24, 5, 4), (102, 5, 27, 5, 6), (103, 5, 31, 5, 7), (101, 5, 34, 5, 5), (79, 6, 9, 6, 0), (80, 6, 15, 6, 1), (81, 6, 37, 6, 2), (160, 8, 9, 8, 1), (161, 8, 16, 8, 2), (162, 8, 20, 8, 3), (163, 8, 24, 8, 4), (159, 8, 27, 8, 0), (182, 9, 9, 9, 0), (183, 9, 15, 9, 1), (128, 10, 9, 10, 1), (127, 10, 15, 10, 0), (130, 10, 19, 10, 3), (131, 10, 23, 10, 4), (132, 10, 26, 10, 5), (129, 10, 29, 10, 2), (201, 11, 10, 11, 0), (202, 11, 19, 11, 1), (203, 11, 28, 11, 2), (204, 11, 32, 11, 3), (205, 11, 35, 11, 4), (206, 11, 41, 11, 5), (207, 11, 50, 11, 6), (208, 11, 57, 11, 7), (209, 11, 63, 11, 8), (213, 11, 92, 11, 12), (211, 11, 96, 11, 10), (212, 11, 181, 11, 11), (210, 11, 209, 11, 9), (812, 12, 7, 12, 4), (813, 12, 13, 12, 5), (814, 12, 16, 12, 6), (815, 12, 19, 12, 7), (818, 12, 22, 12, 10), (820, 12, 25, 12, 12), (823, 12, 28, 12, 15), (828, 12, 32, 12, 20), (829, 12, 35, 12, 21), (835, 12, 38, 12, 27), (836, 12, 41, 12, 28), (837, 12, 44, 12, 29), (838, 12, 47, 12, 30), (839, 12, 50, 12, 31), (841, 12, 54, 12, 33), (842, 12, 57, 12, 34), (844, 12, 61, 12, 36), (848, 12, 65, 12, 40), (849, 12, 68, 12, 41), (851, 12, 71, 12, 43), (852, 12, 74, 12, 44), (853, 12, 77, 12, 45), (822, 12, 82, 12, 14), (833, 12, 90, 12, 25), (834, 12, 93, 12, 26), (832, 12, 96, 12, 24), (830, 12, 106, 12, 22), (831, 12, 109, 12, 23), (808, 12, 116, 12, 0), (810, 12, 119, 12, 2), (811, 12, 122, 12, 3), (816, 12, 125, 12, 8), (817, 12, 128, 12, 9), (809, 12, 131, 12, 1), (840, 12, 160, 12, 32), (843, 12, 163, 12, 35), (845, 12, 166, 12, 37), (846, 12, 169, 12, 38), (847, 12, 172, 12, 39), (821, 12, 218, 12, 13), (819, 12, 244, 12, 11), (850, 12, 252, 12, 42), (824, 12, 287, 12, 16), (825, 12, 290, 12, 17), (826, 12, 293, 12, 18), (827, 12, 296, 12, 19), (854, 12, 304, 12, 46)]
def flChk (e : FLE) : Bool := tAt e.1 (.fieldLink (rcl e.2.1) e.2.2.1 (TT e.2.2.2.1 e.2.2.2.2).1 (TT e.2.2.2.1 e.2.2.2.2).2.1 (TT e.2.2.2.1 e.2.2.2.2).2.2.1) && decide (e.2.2.2.2 < nF e.2.2.2.1) && decide (e.2.2.2.1 < 13)
theorem flT_ok : flT.all flChk = true := by decide +kernel
/-- virtual, plain: (methodLink, instanceMethod, selects, own, index, receiver class, method) -/
def vT : List (Nat × Nat × Nat × Nat × Nat × Nat × Nat) := [(673, 429, 430, 0, 11, 10, 84), (674, 433, 434, 0, 17, 10, 85), (675, 395, 396, 0, 20, 10, 82), (676, 487, 488, 0, 23, 8, 59), (677, 678, 679, 0, 29, 10, 87), (686, 587, 588, 1, 9, 10, 86), (688, 689, 690, 1, 21, 3, 11), (696, 678, 679, 1, 26, 10, 87), (736, 356, 357, 2, 9, 5, 32), (700, 701, 702, 4, 18, 10, 79), (704, 705, 706, 4, 24, 5, 28), (721, 722, 723, 4, 34, 5, 29), (715, 310, 311, 4, 41, 5, 26), (716, 352, 353, 4, 44, 10, 78), (725, 727, 10, 4, 48, 4, 17), (729, 730, 731, 4, 52, 4, 16), (738, 678, 679, 4, 56, 10, 87), (717, 344, 345, 4, 59, 5, 30), (718, 348, 349, 4, 62, 5, 31), (318, 320, 0, 5, 45, 5, 24), (322, 324, 1, 5, 49, 5, 25), (375, 376, 377, 5, 52, 5, 34), (379, 380, 381, 5, 56, 5, 27), (299, 271, 272, 6, 33, 6, 45), (274, 275, 276, 6, 40, 6, 41), (304, 305, 306, 6, 59, 5, 21), (309, 310, 311, 6, 65, 5, 26), (313, 314, 315, 6, 68, 5, 22), (326, 327, 328, 6, 72, 10, 72), (741, 678, 679, 7, 7, 10, 87), (440, 441, 442, 8, 39, 8, 60), (490, 372, 373, 8, 43, 5, 37), (444, 380, 381, 8, 49, 5, 27), (475, 310, 311, 8, 53, 5, 26), (491, 437, 438, 8, 56, 8, 58), (451, 453, 5, 8, 66, 8, 61), (455, 376, 377, 8, 70, 5, 34), (462, 464, 6, 8, 77, 8, 62), (468, 470, 7, 8, 80, 8, 64), (521, 380, 381, 9, 19, 5, 27), (522, 523, 524, 9, 25, 5, 35), (526, 527, 528, 9, 28, 5, 36), (539, 376, 377, 9, 38, 5, 34), (576, 577, 578, 9, 42, 5, 33), (549, 437, 438, 9, 45, 8, 58), (550, 551, 552, 9, 51, 8, 56), (554, 556, 8, 9, 55, 9, 70), (564, 565, 566, 9, 59, 8, 57), (558, 314, 315, 9, 63, 5, 22), (559, 331, 332, 9, 67, 8, 55), (560, 561, 562, 9, 70, 5, 23), (508, 420, 421, 10, 40, 10, 75), (371, 372, 373, 10, 43, 5, 37), (590, 380, 381, 10, 49, 5, 27), (681, 310, 311, 10, 53, 5, 26), (682, 352, 353, 10, 56, 10, 78), (245, 246, 247, 11, 67, 6, 42), (258, 259, 260, 11, 71, 6, 39), (262, 263, 264, 11, 75, 6, 40), (270, 271, 272, 11, 78, 6, 45), (295, 296, 297, 11, 81, 6, 44), (300, 301, 302, 11, 85, 6, 50), (330, 331, 332, 11, 89, 8, 55), (334, 310, 311, 11, 100, 5, 26), (339, 341, 2, 11, 101, 11, 116), (343, 344, 345, 11, 105, 5, 30), (347, 348, 349, 11, 109, 5, 31), (351, 352, 353, 11, 112, 10, 78), (355, 356, 357, 11, 115, 5, 32), (363, 365, 3, 11, 118, 11, 115), (367, 368, 369, 11, 121, 10, 77), (390, 391, 392, 11, 127, 10, 80), (394, 395, 396, 11, 130, 10, 82), (398, 399, 400, 11, 133, 10, 83), (406, 408, 4, 11, 137, 11, 119), (410, 411, 412, 11, 140, 10, 74), (419, 420, 421, 11, 143, 10, 75), (428, 429, 430, 11, 146, 10, 84), (432, 433, 434, 11, 149, 10, 85), (436, 437, 438, 11, 152, 8, 58), (486, 487, 488, 11, 156, 8, 59), (500, 501, 502, 11, 159, 10, 73), (504, 505, 506, 11, 163, 10, 76), (509, 510, 511, 11, 166, 10, 81), (517, 518, 519, 11, 169, 9, 66), (534, 535, 536, 11, 173, 9, 67), (545, 546, 547, 11, 184, 9, 69), (572, 573, 574, 11, 187, 9, 68), (580, 577, 578, 11, 190, 5, 33), (585, 441, 442, 11, 193, 8, 60), (586, 587, 588, 11, 197, 10, 86), (651, 653, 9, 11, 216, 11, 120), (662, 663, 664, 11, 223, 3, 10), (666, 667, 668, 11, 226, 7, 53), (746, 748, 11, 11, 230, 11, 123), (750, 751, 752, 11, 234, 3, 12), (772, 336, 337, 11, 241, 11, 93), (773, 360, 361, 11, 244, 11, 94), (774, 425, 426, 11, 247, 11, 98), (775, 483, 484, 11, 250, 11, 99), (776, 497, 498, 11, 253, 11, 101), (777, 514, 515, 11, 256, 11, 102), (778, 531, 532, 11, 259, 11, 103), (779, 569, 570, 11, 262, 11, 105), (780, 582, 583, 11, 265, 11, 106), (781, 782, 783, 11, 268, 7, 52), (798, 275, 276, 11, 271, 6, 41), (799, 763, 764, 11, 274, 11, 113), (976, 978, 14, 12, 99, 12, 134), (969, 971, 13, 12, 103, 12, 133), (965, 967, 12, 12, 113, 12, 135), (988, 990, 15, 12, 134, 12, 138), (992, 994, 16, 12, 138, 12, 139), (1012, 1014, 20, 12, 145, 12, 141), (1004, 1006, 18, 12, 149, 12, 143), (1008, 1010, 19, 12, 153, 12, 142), (1000, 1002, 17, 12, 156, 12, 144), (1030, 1032, 22, 12, 178, 12, 146), (1034, 1036, 23, 12, 182, 12, 147), (1038, 1040, 24, 12, 185, 12, 149), (1026, 1028, 21, 12, 191, 12, 150), (1053, 1055, 26, 12, 194, 12, 153), (1049, 1051, 25, 12, 197, 12, 154), (1081, 1083, 28, 12, 200, 12, 161), (1077, 1079, 27, 12, 203, 12, 160), (1089, 1091, 29, 12, 206, 12, 163), (1097, 1099, 30, 12, 212, 12, 166), (1112, 1114, 32, 12, 215, 12, 168), (1108, 1110, 31, 12, 221, 12, 169), (1120, 1122, 33, 12, 225, 12, 171), (1133, 1135, 35, 12, 232, 12, 174), (1140, 1142, 36, 12, 235, 12, 175), (1129, 1131, 34, 12, 241, 12, 177), (1156, 1158, 37, 12, 247, 12, 180), (1176, 1178, 41, 12, 262, 12, 184), (1180, 1182, 42, 12, 265, 12, 185), (1168, 1170, 39, 12, 268, 12, 183), (1172, 1174, 40, 12, 271, 12, 186), (1184, 1186, 43, 12, 275, 12, 187), (1188, 1190, 44, 12, 278, 12, 182), (1164, 1166, 38, 12, 281, 12, 188), (1200, 1202, 45, 12, 284, 12, 190), (1216, 1218, 46, 12, 299, 12, 194), (1225, 1227, 47, 12, 307, 12, 196), (1230, 1232, 48, 12, 313, 12, 197), (241, 242, 243, 13, 15, 11, 89), (952, 953, 954, 13, 19, 12, 131), (254, 255, 256, 13, 20, 11, 90), (957, 958, 959, 13, 24, 12, 132), (266, 267, 268, 13, 25, 11, 91), (961, 962, 963, 13, 28, 12, 136), (291, 292, 293, 13, 29, 11, 92), (980, 981, 982, 13, 32, 12, 137), (335, 336, 337, 13, 33, 11, 93), (984, 985, 986, 13, 37, 12, 140), (359, 360, 361, 13, 38, 11, 94), (996, 997, 998, 13, 41, 12, 145), (383, 384, 385, 13, 42, 11, 95), (1057, 1058, 1059, 13, 46, 12, 156), (402, 403, 404, 13, 47, 11, 96), (1061, 1062, 1063, 13, 50, 12, 157), (415, 416, 417, 13, 51, 11, 97), (1065, 1066, 1067, 13, 54, 12, 158), (424, 425, 426, 13, 55, 11, 98), (1019, 1020, 1021, 13, 58, 12, 152), (482, 483, 484, 13, 59, 11, 99), (1045, 1046, 1047, 13, 62, 12, 155), (492, 493, 494, 13, 63, 11, 100), (1069, 1070, 1071, 13, 66, 12, 159), (496, 497, 498, 13, 67, 11, 101), (1073, 1074, 1075, 13, 70, 12, 162), (513, 514, 515, 13, 71, 11, 102), (1085, 1086, 1087, 13, 74, 12, 164), (530, 531, 532, 13, 75, 11, 103), (1093, 1094, 1095, 13, 78, 12, 167), (541, 542, 543, 13, 79, 11, 104), (1104, 1105, 1106, 13, 82, 12, 170), (568, 569, 570, 13, 83, 11, 105), (1116, 1117, 1118, 13, 86, 12, 172), (581, 582, 583, 13, 87, 11, 106), (1125, 1126, 1127, 13, 90, 12, 178), (595, 596, 597, 13, 91, 11, 107), (1148, 1149, 1150, 13, 94, 12, 179), (647, 648, 649, 13, 95, 11, 108), (1152, 1153, 1154, 13, 98, 12, 181), (658, 659, 660, 13, 99, 11, 109), (1160, 1161, 1162, 13, 102, 12, 189), (742, 743, 744, 13, 103, 11, 110), (1196, 1197, 1198, 13, 107, 12, 191), (754, 755, 756, 13, 108, 11, 111), (1204, 1205, 1206, 13, 111, 12, 192), (758, 759, 760, 13, 112, 11, 112), (1208, 1209, 1210, 13, 115, 12, 193), (762, 763, 764, 13, 116, 11, 113), (1212, 1213, 1214, 13, 119, 12, 195), (766, 767, 768, 13, 120, 11, 114), (1220, 1221, 1222, 13, 124, 12, 198)]
def vChk (e : Nat × Nat × Nat × Nat × Nat × Nat × Nat) : Bool := tAt e.1 (.methodLink (rcl e.2.2.2.1) e.2.2.2.2.1 (mName e.2.2.2.2.2.2)) && tAt e.2.1 (.instanceMethod (mName e.2.2.2.2.2.2)) && tAt e.2.2.1 (.selects (rcl e.2.2.2.2.2.1) (mName e.2.2.2.2.2.2) (mName e.2.2.2.2.2.2)) && decide (e.2.2.2.2.2.2 < 200) && decide (e.2.2.2.2.2.1 < 13)
theorem vT_ok : vT.all vChk = true := by decide +kernel
/-- virtual, another method than the named one: (methodLink, sameMethod, instanceMethod of the owner, selects, instanceMethod, own, index, receiver class, method, the method named) -/
def uT : List (List Nat) := [[725, 1235, 727, 1241, 727, 4, 48, 2, 17, 17], [729, 732, 730, 733, 734, 4, 52, 2, 8, 16], [666, 669, 667, 670, 671, 11, 226, 0, 2, 53], [666, 669, 667, 683, 684, 11, 226, 1, 5, 53], [666, 669, 667, 697, 698, 11, 226, 2, 15, 53], [666, 669, 667, 739, 698, 11, 226, 4, 15, 53], [781, 784, 782, 785, 786, 11, 268, 0, 1, 52], [781, 784, 782, 788, 789, 11, 268, 1, 4, 52], [781, 784, 782, 791, 792, 11, 268, 2, 7, 52], [781, 784, 782, 794, 795, 11, 268, 4, 14, 52]]
def uChk (e : List Nat) : Bool := tAt (e.getD 0 0) (.methodLink (rcl (e.getD 5 0)) (e.getD 6 0) (mName (e.getD 9 0))) && tAt (e.getD 1 0) (.sameMethod (mName (e.getD 9 0)).cls (mName (e.getD 9 0)).cls (mName (e.getD 9 0)).name (mName (e.getD 9 0)).desc) && tAt (e.getD 2 0) (.instanceMethod (mName (e.getD 9 0))) && tAt (e.getD 3 0) (.selects (rcl (e.getD 7 0)) (mName (e.getD 9 0)) (mName (e.getD 8 0))) && tAt (e.getD 4 0) (.instanceMethod (mName (e.getD 8 0))) && decide (e.getD 8 0 < 200) && decide (e.getD 9 0 < 200) && decide (e.getD 7 0 < 13) && decide (mArg (e.getD 8 0) = mArg (e.getD 9 0))
theorem uT_ok : uT.all uChk = true := by decide +kernel
/-- static: (methodLink, static, own, index, method) -/
def sT : List FLE := [(687, 446, 1, 15, 199), (708, 709, 4, 30, 18), (712, 713, 4, 75, 19), (249, 250, 6, 23, 43), (279, 280, 6, 44, 46), (282, 283, 6, 48, 48), (285, 286, 6, 52, 47), (288, 289, 6, 56, 49), (445, 446, 8, 60, 199), (472, 473, 8, 85, 63), (538, 446, 9, 32, 199), (387, 388, 11, 124, 117), (540, 446, 11, 176, 199), (591, 457, 11, 200, 124), (592, 593, 11, 203, 125), (599, 600, 11, 206, 118), (602, 603, 11, 212, 121), (655, 656, 11, 219, 122), (461, 154, 11, 294, 126), (973, 974, 12, 86, 129), (1016, 1017, 12, 141, 130), (1042, 1043, 12, 175, 148), (1023, 1024, 12, 188, 151), (1101, 1102, 12, 209, 165), (1137, 1138, 12, 228, 173), (1145, 1146, 12, 238, 176)]
def sChk (e : FLE) : Bool := tAt e.1 (.methodLink (rcl e.2.2.1) e.2.2.2.1 (mName e.2.2.2.2)) && tAt e.2.1 (.static (mName e.2.2.2.2)) && decide (e.2.2.2.2 < 200)
theorem sT_ok : sT.all sChk = true := by decide +kernel
/-- static of a nest mate: (the nest word in lw_tbl, static, own, index, method) -/
def snT : List FLE := [(719, 154, 4, 37, 126), (711, 157, 4, 71, 127), (308, 157, 5, 37, 127), (317, 154, 5, 41, 126), (278, 154, 6, 19, 126), (253, 157, 6, 27, 127), (153, 154, 8, 31, 126), (156, 157, 8, 35, 127), (456, 457, 8, 74, 124), (423, 154, 10, 32, 126), (414, 157, 10, 36, 127)]
def snChk (e : FLE) : Bool := decide (tblX[e.1]? = some (.methodLinkNest (rcl e.2.2.1) e.2.2.2.1 (mName e.2.2.2.2) "CutsOrFast")) && tAt e.2.1 (.static (mName e.2.2.2.2)) && decide (e.2.2.2.2 < 200)
theorem snT_ok : snT.all snChk = true := by decide +kernel
/-- constructors: (methodLink, instanceMethod, own, index, method) -/
def cT : List FLE := [(123, 124, 11, 25, 71), (148, 149, 11, 40, 54), (178, 179, 11, 47, 65), (67, 68, 13, 9, 88), (802, 803, 13, 12, 128)]
def cChk (e : FLE) : Bool := tAt e.1 (.methodLink (rcl e.2.2.1) e.2.2.2.1 (mName e.2.2.2.2)) && tAt e.2.1 (.instanceMethod (mName e.2.2.2.2)) && decide (e.2.2.2.2 < 200) && decide ((mName e.2.2.2.2).name = "<init>") && decide (mRet e.2.2.2.2 = none)
theorem cT_ok : cT.all cChk = true := by decide +kernel
def cnT : List FLE := [(610, 611, 0, 3, 51), (642, 611, 1, 1, 51), (633, 618, 2, 1, 13), (620, 611, 4, 3, 51), (75, 76, 11, 9, 38), (92, 93, 11, 18, 20), (191, 192, 11, 56, 9), (607, 608, 11, 279, 0), (617, 618, 11, 282, 13), (630, 631, 11, 285, 6), (639, 640, 11, 288, 3), (645, 611, 11, 289, 51)]
def cnChk (e : FLE) : Bool := decide (tblX[e.1]? = some (.methodLinkNest (rcl e.2.2.1) e.2.2.2.1 (mName e.2.2.2.2) "CutsOrFast")) && tAt e.2.1 (.instanceMethod (mName e.2.2.2.2)) && decide (e.2.2.2.2 < 200) && decide ((mName e.2.2.2.2).name = "<init>") && decide (mRet e.2.2.2.2 = none)
theorem cnT_ok : cnT.all cnChk = true := by decide +kernel
/-- Object.<init>: (methodLink, own, index) -/
def oT : List (Nat × Nat × Nat) := [(194, 3, 1), (95, 5, 3), (78, 6, 3), (613, 7, 1), (151, 8, 3), (181, 9, 3), (126, 10, 3), (70, 11, 1), (805, 12, 1)]
def oChk (e : Nat × Nat × Nat) : Bool := tAt e.1 (.methodLink (rcl e.2.1) e.2.2 objectInit)
theorem oT_ok : oT.all oChk = true := by decide +kernel
theorem oInst_ok : tAt 71 (.instanceMethod objectInit) = true := by decide +kernel
theorem oCode_ok : tAt 72 (.code objectInit ⟨#[0xb1]⟩ 1 none) = true := by decide +kernel
/-- new: (classLink, instantiable, own, index, class) -/
def nT : List FLE := [(73, 74, 11, 7, 6), (90, 91, 11, 16, 5), (121, 122, 11, 23, 10), (146, 147, 11, 38, 8), (176, 177, 11, 45, 9), (189, 190, 11, 54, 3), (199, 644, 11, 61, 7), (605, 606, 11, 277, 0), (615, 616, 11, 280, 4), (628, 629, 11, 283, 2), (637, 638, 11, 286, 1), (65, 66, 13, 7, 11), (800, 801, 13, 10, 12)]
def nChk (e : FLE) : Bool := tAt e.1 (.classLink (rcl e.2.2.1) e.2.2.2.1 (rcl e.2.2.2.2)) && tAt e.2.1 (.instantiable (rcl e.2.2.2.2) (nF e.2.2.2.2)) && tAt (iPos.getD e.2.2.2.2 0) (.initialized (rcl e.2.2.2.2)) && decide (e.2.2.2.2 < 13)
theorem nT_ok : nT.all nChk = true := by decide +kernel
/-- Math.max, Math.min of ints: (position, own, index) -/
def mxT : List (Nat × Nat × Nat) := [(476, 8, 89)]
def mnT : List (Nat × Nat × Nat) := [(720, 4, 65), (479, 8, 94)]
theorem mxT_ok : mxT.all (fun e => tAt e.1 (.methodLink (rcl e.2.1) e.2.2 Lib.Math.max.name)) = true := by decide +kernel
theorem mnT_ok : mnT.all (fun e => tAt e.1 (.methodLink (rcl e.2.1) e.2.2 Lib.Math.min.name)) = true := by decide +kernel
theorem mth_ok : (tAt 477 (.static Lib.Math.max.name) && tAt 478 (.code Lib.Math.max.name Lib.Math.max.code 2 (some .int)) && tAt 480 (.static Lib.Math.min.name) && tAt 481 (.code Lib.Math.min.name Lib.Math.min.code 2 (some .int)) && tAt 59 (.initialized "java/lang/Math")) = true := by decide +kernel
theorem anw_ok : tAt 199 (.classLink (rcl 11) 61 "CutsOrFast$Player") = true := by decide +kernel
/-- instanceof: (classLink, own, index, the class asked for) -/
def inT : List (Nat × Nat × Nat × Nat) := [(605, 11, 277, 0), (615, 11, 280, 4), (628, 11, 283, 2), (637, 11, 286, 1)]
def inChk (e : Nat × Nat × Nat × Nat) : Bool := tAt e.1 (.classLink (rcl e.2.1) e.2.2.1 (rcl e.2.2.2)) && decide (e.2.2.2 < 13)
theorem inT_ok : inT.all inChk = true := by decide +kernel
/-- constants: (position, own, index, value) -/
def ldT : List (Nat × Nat × Nat × Int32) := [(152, 8, 15, 236196), (466, 8, 83, 59049), (467, 8, 84, 118098), (806, 12, 60, 118098), (807, 12, 64, 39366), (1124, 12, 224, 1048576), (1144, 12, 231, 1073741824), (448, 14, 265, 1431655765), (449, 14, 266, 858993459), (450, 14, 267, 252645135)]
def ldChk (e : Nat × Nat × Nat × Int32) : Bool := tAt e.1 (.constant (rcl e.2.1) e.2.2.1 e.2.2.2)
theorem ldT_ok : ldT.all ldChk = true := by decide +kernel
def ldT2 : List (Nat × Nat × Nat × Int64) := [(692, 3, 13, 1103515245), (693, 3, 15, 12345), (694, 3, 17, 2147483647), (695, 3, 19, 65536), (252, 6, 31, 255), (770, 11, 237, 587), (771, 11, 239, 31), (956, 12, 80, 255), (1192, 12, 250, 1103515245), (1193, 12, 256, 12345), (1194, 12, 258, 2147483647), (1195, 12, 260, 65536), (1229, 12, 302, 31), (1224, 12, 311, 587), (1234, 13, 13, 4294967295)]
def ldChk2 (e : Nat × Nat × Nat × Int64) : Bool := tAt e.1 (.constantLong (rcl e.2.1) e.2.2.1 e.2.2.2)
theorem ldT2_ok : ldT2.all ldChk2 = true := by decide +kernel
theorem arr_int : tAt 89 (.arrayClass .int) = true := by decide +kernel
theorem arr_long : tAt 175 (.arrayClass .long) = true := by decide +kernel
theorem arr_byte : tAt 950 (.arrayClass .byte) = true := by decide +kernel
theorem arr_boolean : tAt 951 (.arrayClass .boolean) = true := by decide +kernel
theorem arrO_ok : lw_tbl[200]? = some (.arrayOver (.object "CutsOrFast$Player")) := by decide +kernel
def castY : List (Nat × Nat) := [(2, 4), (0, 7), (4, 7), (2, 7), (1, 7)]
theorem castY_ok : (castY.zip [1236, 1237, 1238, 1239, 1240]).all (fun e => decide (lw_tbl[e.2]? = some (.castable (rcl e.1.1) (rcl e.1.2)))) = true := by decide +kernel
theorem gst_ok : tAt 459 (.fieldLink "CutsOrFast" 290 "CutsOrFast" "FACTORIALS" "[I") = true := by decide +kernel
theorem lst_ok : lw_tbl[460]? = some (.laysStatic "CutsOrFast" "FACTORIALS" "[I") := by decide +kernel
end
section
/-! the instructions, each with what the pool says of it: (value, long value, a number, a number, a list) -/
abbrev XI : Type := Int32 × Int64 × Nat × Nat × List (Nat × Nat)
abbrev OpE : Type := Nat × Instr × XI
abbrev x0 : XI := (0, 0, 0, 0, [])
/-- CutsOrFast$Best.<init>()V -/
def op_0 : List (Nat × OpE) := [(0, 1, .aload_n 0, x0), (1, 3, .invokespecial 3, (0, 0, 51, 0, [])), (4, 1, .return_, x0)]
theorem de_0 : (op_0.all fun e => decide (decode prog_2_method_1_code e.1 = .ok (e.2.2.1, e.2.1))) = true := by decide +kernel
/-- CutsOrFast$Best.kind()I -/
def op_1 : List (Nat × OpE) := [(0, 1, .iconst 1, (1, 0, 0, 0, [])), (1, 1, .ireturn, x0)]
theorem de_1 : (op_1.all fun e => decide (decode prog_2_method_2_code e.1 = .ok (e.2.2.1, e.2.1))) = true := by decide +kernel
/-- CutsOrFast$Best.choose(LCutsOrFast$Stand;LCutsOrFast$Search;LCutsOrFast$Draws;)I -/
def op_2 : List (Nat × OpE) := [(0, 1, .aload_n 2, x0), (1, 1, .aload_n 1, x0), (2, 3, .invokevirtual 11, (0, 0, 0, 0, [(10, 84)])), (5, 1, .aload_n 1, x0), (6, 3, .invokevirtual 17, (0, 0, 0, 0, [(10, 85)])), (9, 1, .aload_n 1, x0), (10, 3, .invokevirtual 20, (0, 0, 0, 0, [(10, 82)])), (13, 3, .invokevirtual 23, (0, 0, 0, 3, [(8, 59)])), (16, 2, .istore 4, x0), (18, 2, .iload 4, x0), (20, 1, .iconst (-1), ((-1), 0, 0, 0, [])), (21, 3, .if_icmp .ne 11, (0, 0, 32, 0, [])), (24, 1, .aload_n 1, x0), (25, 1, .iconst 0, x0), (26, 3, .invokevirtual 29, (0, 0, 0, 1, [(10, 87)])), (29, 3, .goto 5, (0, 0, 34, 0, [])), (32, 2, .iload 4, x0), (34, 1, .ireturn, x0)]
theorem de_2 : (op_2.all fun e => decide (decode prog_2_method_3_code e.1 = .ok (e.2.2.1, e.2.1))) = true := by decide +kernel
/-- CutsOrFast$Chance.<init>()V -/
def op_3 : List (Nat × OpE) := [(0, 1, .aload_n 0, x0), (1, 3, .invokespecial 1, (0, 0, 51, 0, [])), (4, 1, .return_, x0)]
theorem de_3 : (op_3.all fun e => decide (decode prog_3_method_1_code e.1 = .ok (e.2.2.1, e.2.1))) = true := by decide +kernel
/-- CutsOrFast$Chance.kind()I -/
def op_4 : List (Nat × OpE) := [(0, 1, .iconst 4, (4, 0, 0, 0, [])), (1, 1, .ireturn, x0)]
theorem de_4 : (op_4.all fun e => decide (decode prog_3_method_2_code e.1 = .ok (e.2.2.1, e.2.1))) = true := by decide +kernel
/-- CutsOrFast$Chance.choose(LCutsOrFast$Stand;LCutsOrFast$Search;LCutsOrFast$Draws;)I -/
def op_5 : List (Nat × OpE) := [(0, 1, .aload_n 1, x0), (1, 1, .aload_n 3, x0), (2, 1, .aload_n 1, x0), (3, 3, .invokevirtual 9, (0, 0, 0, 0, [(10, 86)])), (6, 3, .invokestatic 15, (0, 0, 199, 1, [])), (9, 3, .invokevirtual 21, (0, 0, 0, 1, [(3, 11)])), (12, 3, .invokevirtual 26, (0, 0, 0, 1, [(10, 87)])), (15, 1, .ireturn, x0)]
theorem de_5 : (op_5.all fun e => decide (decode prog_3_method_3_code e.1 = .ok (e.2.2.1, e.2.1))) = true := by decide +kernel
/-- CutsOrFast$Dear.<init>()V -/
def op_6 : List (Nat × OpE) := [(0, 1, .aload_n 0, x0), (1, 3, .invokespecial 1, (0, 0, 13, 0, [])), (4, 1, .return_, x0)]
theorem de_6 : (op_6.all fun e => decide (decode prog_4_method_1_code e.1 = .ok (e.2.2.1, e.2.1))) = true := by decide +kernel
/-- CutsOrFast$Dear.kind()I -/
def op_7 : List (Nat × OpE) := [(0, 1, .iconst 3, (3, 0, 0, 0, [])), (1, 1, .ireturn, x0)]
theorem de_7 : (op_7.all fun e => decide (decode prog_4_method_2_code e.1 = .ok (e.2.2.1, e.2.1))) = true := by decide +kernel
/-- CutsOrFast$Dear.isRather(LCutsOrFast$Net;II)Z -/
def op_8 : List (Nat × OpE) := [(0, 1, .aload_n 1, x0), (1, 1, .iload_n 2, x0), (2, 3, .invokevirtual 9, (0, 0, 0, 1, [(5, 32)])), (5, 1, .aload_n 1, x0), (6, 1, .iload_n 3, x0), (7, 3, .invokevirtual 9, (0, 0, 0, 1, [(5, 32)])), (10, 3, .if_icmp .le 7, (0, 0, 17, 0, [])), (13, 1, .iconst 1, (1, 0, 0, 0, [])), (14, 3, .goto 4, (0, 0, 18, 0, [])), (17, 1, .iconst 0, x0), (18, 1, .ireturn, x0)]
theorem de_8 : (op_8.all fun e => decide (decode prog_4_method_3_code e.1 = .ok (e.2.2.1, e.2.1))) = true := by decide +kernel
/-- CutsOrFast$Draws.<init>()V -/
def op_9 : List (Nat × OpE) := [(0, 1, .aload_n 0, x0), (1, 3, .invokespecial 1, (0, 0, 9999, 0, [])), (4, 1, .return_, x0)]
theorem de_9 : (op_9.all fun e => decide (decode prog_5_method_1_code e.1 = .ok (e.2.2.1, e.2.1))) = true := by decide +kernel
/-- CutsOrFast$Draws.start(I)V -/
def op_10 : List (Nat × OpE) := [(0, 1, .aload_n 0, x0), (1, 1, .iload_n 1, x0), (2, 1, .i2l, x0), (3, 3, .putfield 7, (0, 0, 0, 3, [])), (6, 1, .return_, x0)]
theorem de_10 : (op_10.all fun e => decide (decode prog_5_method_2_code e.1 = .ok (e.2.2.1, e.2.1))) = true := by decide +kernel
/-- CutsOrFast$Draws.next(I)I -/
def op_11 : List (Nat × OpE) := [(0, 1, .aload_n 0, x0), (1, 3, .ldc2_w 13, (0, 1103515245, 0, 0, [])), (4, 1, .aload_n 0, x0), (5, 3, .getfield 7, (0, 0, 0, 3, [])), (8, 1, .lmul, x0), (9, 3, .ldc2_w 15, (0, 12345, 0, 0, [])), (12, 1, .ladd, x0), (13, 3, .ldc2_w 17, (0, 2147483647, 0, 0, [])), (16, 1, .land, x0), (17, 3, .putfield 7, (0, 0, 0, 3, [])), (20, 1, .iload_n 1, x0), (21, 3, .ifCond .le 18, (0, 0, 39, 0, [])), (24, 1, .aload_n 0, x0), (25, 3, .getfield 7, (0, 0, 0, 3, [])), (28, 3, .ldc2_w 19, (0, 65536, 0, 0, [])), (31, 1, .ldiv, x0), (32, 1, .iload_n 1, x0), (33, 1, .i2l, x0), (34, 1, .lrem, x0), (35, 1, .l2i, x0), (36, 3, .goto 4, (0, 0, 40, 0, [])), (39, 1, .iconst 0, x0), (40, 1, .ireturn, x0)]
theorem de_11 : (op_11.all fun e => decide (decode prog_5_method_3_code e.1 = .ok (e.2.2.1, e.2.1))) = true := by decide +kernel
/-- CutsOrFast$Draws.seedNow()I -/
def op_12 : List (Nat × OpE) := [(0, 1, .aload_n 0, x0), (1, 3, .getfield 7, (0, 0, 0, 3, [])), (4, 1, .l2i, x0), (5, 1, .ireturn, x0)]
theorem de_12 : (op_12.all fun e => decide (decode prog_5_method_4_code e.1 = .ok (e.2.2.1, e.2.1))) = true := by decide +kernel
/-- CutsOrFast$Near.<init>()V -/
def op_13 : List (Nat × OpE) := [(0, 1, .aload_n 0, x0), (1, 3, .invokespecial 3, (0, 0, 51, 0, [])), (4, 1, .aload_n 0, x0), (5, 2, .bipush 6, (6, 0, 0, 0, [])), (7, 2, .newarray .int, (0, 0, 20, 0, [])), (9, 3, .putfield 9, (0, 0, 0, 4, [])), (12, 1, .aload_n 0, x0), (13, 2, .bipush 6, (6, 0, 0, 0, [])), (15, 2, .newarray .int, (0, 0, 20, 0, [])), (17, 3, .putfield 15, (0, 0, 1, 4, [])), (20, 1, .return_, x0)]
theorem de_13 : (op_13.all fun e => decide (decode prog_6_method_1_code e.1 = .ok (e.2.2.1, e.2.1))) = true := by decide +kernel
/-- CutsOrFast$Near.kind()I -/
def op_14 : List (Nat × OpE) := [(0, 1, .iconst 2, (2, 0, 0, 0, [])), (1, 1, .ireturn, x0)]
theorem de_14 : (op_14.all fun e => decide (decode prog_6_method_2_code e.1 = .ok (e.2.2.1, e.2.1))) = true := by decide +kernel
/-- CutsOrFast$Near.choose(LCutsOrFast$Stand;LCutsOrFast$Search;LCutsOrFast$Draws;)I -/
def op_15 : List (Nat × OpE) := [(0, 1, .aload_n 1, x0), (1, 3, .invokevirtual 18, (0, 0, 0, 0, [(10, 79)])), (4, 2, .astore 4, x0), (6, 1, .aload_n 0, x0), (7, 3, .getfield 9, (0, 0, 0, 4, [])), (10, 2, .aload 4, x0), (12, 3, .invokevirtual 24, (0, 0, 0, 0, [(5, 28)])), (15, 1, .aload_n 1, x0), (16, 3, .invokestatic 30, (0, 0, 18, 3, [])), (19, 1, .aload_n 0, x0), (20, 3, .getfield 15, (0, 0, 1, 4, [])), (23, 2, .aload 4, x0), (25, 3, .invokevirtual 34, (0, 0, 0, 0, [(5, 29)])), (28, 1, .aload_n 1, x0), (29, 3, .invokestatic 30, (0, 0, 18, 3, [])), (32, 1, .aload_n 0, x0), (33, 3, .getfield 9, (0, 0, 0, 4, [])), (36, 2, .aload 4, x0), (38, 3, .invokevirtual 34, (0, 0, 0, 0, [(5, 29)])), (41, 3, .invokestatic 37, (0, 0, 126, 2, [])), (44, 2, .istore 5, x0), (46, 1, .iconst (-1), ((-1), 0, 0, 0, [])), (47, 2, .istore 6, x0), (49, 1, .iconst 0, x0), (50, 2, .istore 7, x0), (52, 2, .iload 7, x0), (54, 2, .aload 4, x0), (56, 3, .invokevirtual 41, (0, 0, 0, 0, [(5, 26)])), (59, 3, .if_icmp .ge 54, (0, 0, 113, 0, [])), (62, 1, .aload_n 1, x0), (63, 2, .iload 7, x0), (65, 3, .invokevirtual 44, (0, 0, 0, 1, [(10, 78)])), (68, 3, .ifCond .ne 39, (0, 0, 107, 0, [])), (71, 1, .aload_n 0, x0), (72, 2, .aload 4, x0), (74, 2, .iload 7, x0), (76, 3, .invokevirtual 48, (0, 0, 0, 2, [(4, 17), (2, 17)])), (79, 2, .iload 5, x0), (81, 3, .if_icmp .ne 26, (0, 0, 107, 0, [])), (84, 2, .iload 6, x0), (86, 1, .iconst (-1), ((-1), 0, 0, 0, [])), (87, 3, .if_icmp .eq 16, (0, 0, 103, 0, [])), (90, 1, .aload_n 0, x0), (91, 2, .aload 4, x0), (93, 2, .iload 7, x0), (95, 2, .iload 6, x0), (97, 3, .invokevirtual 52, (0, 0, 0, 3, [(4, 16), (2, 8)])), (100, 3, .ifCond .eq 7, (0, 0, 107, 0, [])), (103, 2, .iload 7, x0), (105, 2, .istore 6, x0), (107, 3, .iinc 7 1, (1, 0, 7, 0, [])), (110, 3, .goto (-58), (0, 0, 52, 0, [])), (113, 2, .iload 6, x0), (115, 1, .iconst (-1), ((-1), 0, 0, 0, [])), (116, 3, .if_icmp .ne 11, (0, 0, 127, 0, [])), (119, 1, .aload_n 1, x0), (120, 1, .iconst 0, x0), (121, 3, .invokevirtual 56, (0, 0, 0, 1, [(10, 87)])), (124, 3, .goto 5, (0, 0, 129, 0, [])), (127, 2, .iload 6, x0), (129, 1, .ireturn, x0)]
theorem de_15 : (op_15.all fun e => decide (decode prog_6_method_3_code e.1 = .ok (e.2.2.1, e.2.1))) = true := by decide +kernel
/-- CutsOrFast$Near.isRather(LCutsOrFast$Net;II)Z -/
def op_16 : List (Nat × OpE) := [(0, 1, .iconst 0, x0), (1, 1, .ireturn, x0)]
theorem de_16 : (op_16.all fun e => decide (decode prog_6_method_4_code e.1 = .ok (e.2.2.1, e.2.1))) = true := by decide +kernel
/-- CutsOrFast$Near.lengthOver(LCutsOrFast$Net;I)I -/
def op_17 : List (Nat × OpE) := [(0, 1, .aload_n 1, x0), (1, 1, .iload_n 2, x0), (2, 3, .invokevirtual 59, (0, 0, 0, 1, [(5, 30)])), (5, 1, .istore_n 3, x0), (6, 1, .aload_n 1, x0), (7, 1, .iload_n 2, x0), (8, 3, .invokevirtual 62, (0, 0, 0, 1, [(5, 31)])), (11, 2, .istore 4, x0), (13, 1, .aload_n 0, x0), (14, 3, .getfield 9, (0, 0, 0, 4, [])), (17, 1, .iload_n 3, x0), (18, 3, .invokestatic 37, (0, 0, 126, 2, [])), (21, 1, .iconst 1, (1, 0, 0, 0, [])), (22, 1, .iadd, x0), (23, 1, .aload_n 0, x0), (24, 3, .getfield 15, (0, 0, 1, 4, [])), (27, 2, .iload 4, x0), (29, 3, .invokestatic 37, (0, 0, 126, 2, [])), (32, 1, .iadd, x0), (33, 2, .istore 5, x0), (35, 1, .aload_n 0, x0), (36, 3, .getfield 9, (0, 0, 0, 4, [])), (39, 2, .iload 4, x0), (41, 3, .invokestatic 37, (0, 0, 126, 2, [])), (44, 1, .iconst 1, (1, 0, 0, 0, [])), (45, 1, .iadd, x0), (46, 1, .aload_n 0, x0), (47, 3, .getfield 15, (0, 0, 1, 4, [])), (50, 1, .iload_n 3, x0), (51, 3, .invokestatic 37, (0, 0, 126, 2, [])), (54, 1, .iadd, x0), (55, 2, .istore 6, x0), (57, 2, .iload 5, x0), (59, 2, .iload 6, x0), (61, 3, .invokestatic 65, (0, 0, 9002, 2, [])), (64, 1, .ireturn, x0)]
theorem de_17 : (op_17.all fun e => decide (decode prog_6_method_5_code e.1 = .ok (e.2.2.1, e.2.1))) = true := by decide +kernel
/-- CutsOrFast$Near.measure([IILCutsOrFast$Stand;)V -/
def op_18 : List (Nat × OpE) := [(0, 1, .iconst 0, x0), (1, 1, .istore_n 3, x0), (2, 1, .iload_n 3, x0), (3, 1, .aload_n 0, x0), (4, 1, .arraylength, x0), (5, 3, .if_icmp .ge 15, (0, 0, 20, 0, [])), (8, 1, .aload_n 0, x0), (9, 1, .iload_n 3, x0), (10, 3, .sipush 1000, (1000, 0, 0, 0, [])), (13, 1, .iastore, x0), (14, 3, .iinc 3 1, (1, 0, 3, 0, [])), (17, 3, .goto (-15), (0, 0, 2, 0, [])), (20, 1, .aload_n 0, x0), (21, 1, .iload_n 1, x0), (22, 1, .iconst 0, x0), (23, 3, .invokestatic 71, (0, 0, 127, 3, [])), (26, 1, .iconst 1, (1, 0, 0, 0, [])), (27, 1, .istore_n 3, x0), (28, 1, .iload_n 3, x0), (29, 2, .bipush 6, (6, 0, 0, 0, [])), (31, 3, .if_icmp .ge 14, (0, 0, 45, 0, [])), (34, 1, .aload_n 0, x0), (35, 1, .aload_n 2, x0), (36, 3, .invokestatic 75, (0, 0, 19, 2, [])), (39, 3, .iinc 3 1, (1, 0, 3, 0, [])), (42, 3, .goto (-14), (0, 0, 28, 0, [])), (45, 1, .return_, x0)]
theorem de_18 : (op_18.all fun e => decide (decode prog_6_method_6_code e.1 = .ok (e.2.2.1, e.2.1))) = true := by decide +kernel
/-- CutsOrFast$Near.shorten([ILCutsOrFast$Stand;)V -/
def op_19 : List (Nat × OpE) := [(0, 1, .aload_n 1, x0), (1, 3, .invokevirtual 18, (0, 0, 0, 0, [(10, 79)])), (4, 1, .astore_n 2, x0), (5, 1, .iconst 0, x0), (6, 1, .istore_n 3, x0), (7, 1, .iload_n 3, x0), (8, 1, .aload_n 2, x0), (9, 3, .invokevirtual 41, (0, 0, 0, 0, [(5, 26)])), (12, 3, .if_icmp .ge 97, (0, 0, 109, 0, [])), (15, 1, .aload_n 1, x0), (16, 1, .iload_n 3, x0), (17, 3, .invokevirtual 44, (0, 0, 0, 1, [(10, 78)])), (20, 2, .istore 4, x0), (22, 2, .iload 4, x0), (24, 1, .iconst 2, (2, 0, 0, 0, [])), (25, 3, .if_icmp .eq 78, (0, 0, 103, 0, [])), (28, 2, .iload 4, x0), (30, 1, .iconst 1, (1, 0, 0, 0, [])), (31, 3, .if_icmp .ne 7, (0, 0, 38, 0, [])), (34, 1, .iconst 0, x0), (35, 3, .goto 4, (0, 0, 39, 0, [])), (38, 1, .iconst 1, (1, 0, 0, 0, [])), (39, 2, .istore 5, x0), (41, 1, .aload_n 2, x0), (42, 1, .iload_n 3, x0), (43, 3, .invokevirtual 59, (0, 0, 0, 1, [(5, 30)])), (46, 2, .istore 6, x0), (48, 1, .aload_n 2, x0), (49, 1, .iload_n 3, x0), (50, 3, .invokevirtual 62, (0, 0, 0, 1, [(5, 31)])), (53, 2, .istore 7, x0), (55, 1, .aload_n 0, x0), (56, 2, .iload 6, x0), (58, 1, .aload_n 0, x0), (59, 2, .iload 6, x0), (61, 3, .invokestatic 37, (0, 0, 126, 2, [])), (64, 1, .aload_n 0, x0), (65, 2, .iload 7, x0), (67, 3, .invokestatic 37, (0, 0, 126, 2, [])), (70, 2, .iload 5, x0), (72, 1, .iadd, x0), (73, 3, .invokestatic 65, (0, 0, 9002, 2, [])), (76, 3, .invokestatic 71, (0, 0, 127, 3, [])), (79, 1, .aload_n 0, x0), (80, 2, .iload 7, x0), (82, 1, .aload_n 0, x0), (83, 2, .iload 7, x0), (85, 3, .invokestatic 37, (0, 0, 126, 2, [])), (88, 1, .aload_n 0, x0), (89, 2, .iload 6, x0), (91, 3, .invokestatic 37, (0, 0, 126, 2, [])), (94, 2, .iload 5, x0), (96, 1, .iadd, x0), (97, 3, .invokestatic 65, (0, 0, 9002, 2, [])), (100, 3, .invokestatic 71, (0, 0, 127, 3, [])), (103, 3, .iinc 3 1, (1, 0, 3, 0, [])), (106, 3, .goto (-99), (0, 0, 7, 0, [])), (109, 1, .return_, x0)]
theorem de_19 : (op_19.all fun e => decide (decode prog_6_method_7_code e.1 = .ok (e.2.2.1, e.2.1))) = true := by decide +kernel
/-- CutsOrFast$Net.<init>()V -/
def op_20 : List (Nat × OpE) := [(0, 1, .aload_n 0, x0), (1, 3, .invokespecial 3, (0, 0, 9999, 0, [])), (4, 1, .aload_n 0, x0), (5, 2, .bipush 10, (10, 0, 0, 0, [])), (7, 2, .newarray .int, (0, 0, 20, 0, [])), (9, 3, .putfield 9, (0, 0, 0, 5, [])), (12, 1, .aload_n 0, x0), (13, 2, .bipush 10, (10, 0, 0, 0, [])), (15, 2, .newarray .int, (0, 0, 20, 0, [])), (17, 3, .putfield 15, (0, 0, 1, 5, [])), (20, 1, .aload_n 0, x0), (21, 2, .bipush 10, (10, 0, 0, 0, [])), (23, 2, .newarray .int, (0, 0, 20, 0, [])), (25, 3, .putfield 18, (0, 0, 2, 5, [])), (28, 1, .aload_n 0, x0), (29, 2, .bipush 10, (10, 0, 0, 0, [])), (31, 2, .newarray .int, (0, 0, 20, 0, [])), (33, 3, .putfield 21, (0, 0, 3, 5, [])), (36, 1, .aload_n 0, x0), (37, 3, .sipush 1024, (1024, 0, 0, 0, [])), (40, 2, .newarray .int, (0, 0, 20, 0, [])), (42, 3, .putfield 24, (0, 0, 4, 5, [])), (45, 1, .return_, x0)]
theorem de_20 : (op_20.all fun e => decide (decode prog_7_method_1_code e.1 = .ok (e.2.2.1, e.2.1))) = true := by decide +kernel
/-- CutsOrFast$Net.start(II)V -/
def op_21 : List (Nat × OpE) := [(0, 1, .aload_n 0, x0), (1, 1, .iload_n 1, x0), (2, 3, .putfield 27, (0, 0, 6, 5, [])), (5, 1, .aload_n 0, x0), (6, 1, .iload_n 2, x0), (7, 3, .putfield 31, (0, 0, 7, 5, [])), (10, 1, .aload_n 0, x0), (11, 1, .iconst 0, x0), (12, 3, .putfield 34, (0, 0, 5, 5, [])), (15, 1, .aload_n 0, x0), (16, 3, .getfield 24, (0, 0, 4, 5, [])), (19, 1, .iconst 0, x0), (20, 1, .iconst 1, (1, 0, 0, 0, [])), (21, 1, .iload_n 1, x0), (22, 1, .ishl, x0), (23, 3, .invokestatic 37, (0, 0, 127, 3, [])), (26, 1, .return_, x0)]
theorem de_21 : (op_21.all fun e => decide (decode prog_7_method_2_code e.1 = .ok (e.2.2.1, e.2.1))) = true := by decide +kernel
/-- CutsOrFast$Net.add(III)V -/
def op_22 : List (Nat × OpE) := [(0, 1, .aload_n 0, x0), (1, 3, .getfield 9, (0, 0, 0, 5, [])), (4, 1, .aload_n 0, x0), (5, 3, .getfield 34, (0, 0, 5, 5, [])), (8, 1, .iload_n 1, x0), (9, 3, .invokestatic 37, (0, 0, 127, 3, [])), (12, 1, .aload_n 0, x0), (13, 3, .getfield 15, (0, 0, 1, 5, [])), (16, 1, .aload_n 0, x0), (17, 3, .getfield 34, (0, 0, 5, 5, [])), (20, 1, .iload_n 2, x0), (21, 3, .invokestatic 37, (0, 0, 127, 3, [])), (24, 1, .aload_n 0, x0), (25, 3, .getfield 18, (0, 0, 2, 5, [])), (28, 1, .aload_n 0, x0), (29, 3, .getfield 34, (0, 0, 5, 5, [])), (32, 1, .iload_n 3, x0), (33, 3, .invokestatic 37, (0, 0, 127, 3, [])), (36, 1, .aload_n 0, x0), (37, 3, .getfield 21, (0, 0, 3, 5, [])), (40, 1, .aload_n 0, x0), (41, 3, .getfield 34, (0, 0, 5, 5, [])), (44, 1, .iconst 1, (1, 0, 0, 0, [])), (45, 1, .iload_n 1, x0), (46, 1, .ishl, x0), (47, 1, .iconst 1, (1, 0, 0, 0, [])), (48, 1, .iload_n 2, x0), (49, 1, .ishl, x0), (50, 1, .ior, x0), (51, 3, .invokestatic 37, (0, 0, 127, 3, [])), (54, 1, .iconst 1, (1, 0, 0, 0, [])), (55, 1, .aload_n 0, x0), (56, 3, .getfield 34, (0, 0, 5, 5, [])), (59, 1, .ishl, x0), (60, 2, .istore 4, x0), (62, 1, .aload_n 0, x0), (63, 1, .dup, x0), (64, 3, .getfield 34, (0, 0, 5, 5, [])), (67, 1, .iconst 1, (1, 0, 0, 0, [])), (68, 1, .iadd, x0), (69, 3, .putfield 34, (0, 0, 5, 5, [])), (72, 1, .iconst 0, x0), (73, 2, .istore 5, x0), (75, 2, .iload 5, x0), (77, 2, .iload 4, x0), (79, 3, .if_icmp .ge 39, (0, 0, 118, 0, [])), (82, 1, .aload_n 0, x0), (83, 3, .getfield 24, (0, 0, 4, 5, [])), (86, 2, .iload 5, x0), (88, 2, .iload 4, x0), (90, 1, .ior, x0), (91, 1, .aload_n 0, x0), (92, 1, .aload_n 0, x0), (93, 3, .getfield 24, (0, 0, 4, 5, [])), (96, 2, .iload 5, x0), (98, 3, .invokestatic 41, (0, 0, 126, 2, [])), (101, 2, .iload 5, x0), (103, 2, .iload 4, x0), (105, 1, .ior, x0), (106, 3, .invokevirtual 45, (0, 0, 0, 2, [(5, 24)])), (109, 3, .invokestatic 37, (0, 0, 127, 3, [])), (112, 3, .iinc 5 1, (1, 0, 5, 0, [])), (115, 3, .goto (-40), (0, 0, 75, 0, [])), (118, 1, .return_, x0)]
theorem de_22 : (op_22.all fun e => decide (decode prog_7_method_3_code e.1 = .ok (e.2.2.1, e.2.1))) = true := by decide +kernel
/-- CutsOrFast$Net.dropLast()V -/
def op_23 : List (Nat × OpE) := [(0, 1, .aload_n 0, x0), (1, 3, .getfield 34, (0, 0, 5, 5, [])), (4, 3, .ifCond .le 13, (0, 0, 17, 0, [])), (7, 1, .aload_n 0, x0), (8, 1, .dup, x0), (9, 3, .getfield 34, (0, 0, 5, 5, [])), (12, 1, .iconst 1, (1, 0, 0, 0, [])), (13, 1, .isub, x0), (14, 3, .putfield 34, (0, 0, 5, 5, [])), (17, 1, .return_, x0)]
theorem de_23 : (op_23.all fun e => decide (decode prog_7_method_4_code e.1 = .ok (e.2.2.1, e.2.1))) = true := by decide +kernel
/-- CutsOrFast$Net.spread(II)I -/
def op_24 : List (Nat × OpE) := [(0, 1, .iload_n 1, x0), (1, 1, .istore_n 3, x0), (2, 1, .iconst 1, (1, 0, 0, 0, [])), (3, 2, .istore 4, x0), (5, 2, .iload 4, x0), (7, 2, .bipush 6, (6, 0, 0, 0, [])), (9, 3, .if_icmp .ge 28, (0, 0, 37, 0, [])), (12, 1, .aload_n 0, x0), (13, 1, .iload_n 3, x0), (14, 1, .iload_n 2, x0), (15, 3, .invokevirtual 49, (0, 0, 0, 2, [(5, 25)])), (18, 2, .istore 5, x0), (20, 2, .iload 5, x0), (22, 1, .iload_n 3, x0), (23, 3, .if_icmp .ne 5, (0, 0, 28, 0, [])), (26, 1, .iload_n 3, x0), (27, 1, .ireturn, x0), (28, 2, .iload 5, x0), (30, 1, .istore_n 3, x0), (31, 3, .iinc 4 1, (1, 0, 4, 0, [])), (34, 3, .goto (-29), (0, 0, 5, 0, [])), (37, 1, .iload_n 3, x0), (38, 1, .ireturn, x0)]
theorem de_24 : (op_24.all fun e => decide (decode prog_7_method_5_code e.1 = .ok (e.2.2.1, e.2.1))) = true := by decide +kernel
/-- CutsOrFast$Net.spreadOnce(II)I -/
def op_25 : List (Nat × OpE) := [(0, 1, .iload_n 1, x0), (1, 1, .istore_n 3, x0), (2, 1, .iconst 0, x0), (3, 2, .istore 4, x0), (5, 2, .iload 4, x0), (7, 1, .aload_n 0, x0), (8, 3, .getfield 34, (0, 0, 5, 5, [])), (11, 3, .if_icmp .ge 41, (0, 0, 52, 0, [])), (14, 1, .aload_n 0, x0), (15, 3, .getfield 21, (0, 0, 3, 5, [])), (18, 2, .iload 4, x0), (20, 3, .invokestatic 41, (0, 0, 126, 2, [])), (23, 2, .istore 5, x0), (25, 1, .iload_n 2, x0), (26, 1, .iconst 1, (1, 0, 0, 0, [])), (27, 2, .iload 4, x0), (29, 1, .ishl, x0), (30, 1, .iand, x0), (31, 3, .ifCond .eq 15, (0, 0, 46, 0, [])), (34, 1, .iload_n 3, x0), (35, 2, .iload 5, x0), (37, 1, .iand, x0), (38, 3, .ifCond .eq 8, (0, 0, 46, 0, [])), (41, 1, .iload_n 3, x0), (42, 2, .iload 5, x0), (44, 1, .ior, x0), (45, 1, .istore_n 3, x0), (46, 3, .iinc 4 1, (1, 0, 4, 0, [])), (49, 3, .goto (-44), (0, 0, 5, 0, [])), (52, 1, .iload_n 3, x0), (53, 1, .ireturn, x0)]
theorem de_25 : (op_25.all fun e => decide (decode prog_7_method_6_code e.1 = .ok (e.2.2.1, e.2.1))) = true := by decide +kernel
/-- CutsOrFast$Net.size()I -/
def op_26 : List (Nat × OpE) := [(0, 1, .aload_n 0, x0), (1, 3, .getfield 34, (0, 0, 5, 5, [])), (4, 1, .ireturn, x0)]
theorem de_26 : (op_26.all fun e => decide (decode prog_7_method_7_code e.1 = .ok (e.2.2.1, e.2.1))) = true := by decide +kernel
/-- CutsOrFast$Net.all()I -/
def op_27 : List (Nat × OpE) := [(0, 1, .iconst 1, (1, 0, 0, 0, [])), (1, 1, .aload_n 0, x0), (2, 3, .getfield 34, (0, 0, 5, 5, [])), (5, 1, .ishl, x0), (6, 1, .iconst 1, (1, 0, 0, 0, [])), (7, 1, .isub, x0), (8, 1, .ireturn, x0)]
theorem de_27 : (op_27.all fun e => decide (decode prog_7_method_8_code e.1 = .ok (e.2.2.1, e.2.1))) = true := by decide +kernel
/-- CutsOrFast$Net.oneEnd()I -/
def op_28 : List (Nat × OpE) := [(0, 1, .aload_n 0, x0), (1, 3, .getfield 27, (0, 0, 6, 5, [])), (4, 1, .ireturn, x0)]
theorem de_28 : (op_28.all fun e => decide (decode prog_7_method_9_code e.1 = .ok (e.2.2.1, e.2.1))) = true := by decide +kernel
/-- CutsOrFast$Net.otherEnd()I -/
def op_29 : List (Nat × OpE) := [(0, 1, .aload_n 0, x0), (1, 3, .getfield 31, (0, 0, 7, 5, [])), (4, 1, .ireturn, x0)]
theorem de_29 : (op_29.all fun e => decide (decode prog_7_method_10_code e.1 = .ok (e.2.2.1, e.2.1))) = true := by decide +kernel
/-- CutsOrFast$Net.firstPlace(I)I -/
def op_30 : List (Nat × OpE) := [(0, 1, .aload_n 0, x0), (1, 3, .getfield 9, (0, 0, 0, 5, [])), (4, 1, .iload_n 1, x0), (5, 3, .invokestatic 41, (0, 0, 126, 2, [])), (8, 1, .ireturn, x0)]
theorem de_30 : (op_30.all fun e => decide (decode prog_7_method_11_code e.1 = .ok (e.2.2.1, e.2.1))) = true := by decide +kernel
/-- CutsOrFast$Net.secondPlace(I)I -/
def op_31 : List (Nat × OpE) := [(0, 1, .aload_n 0, x0), (1, 3, .getfield 15, (0, 0, 1, 5, [])), (4, 1, .iload_n 1, x0), (5, 3, .invokestatic 41, (0, 0, 126, 2, [])), (8, 1, .ireturn, x0)]
theorem de_31 : (op_31.all fun e => decide (decode prog_7_method_12_code e.1 = .ok (e.2.2.1, e.2.1))) = true := by decide +kernel
/-- CutsOrFast$Net.costOf(I)I -/
def op_32 : List (Nat × OpE) := [(0, 1, .aload_n 0, x0), (1, 3, .getfield 18, (0, 0, 2, 5, [])), (4, 1, .iload_n 1, x0), (5, 3, .invokestatic 41, (0, 0, 126, 2, [])), (8, 1, .ireturn, x0)]
theorem de_32 : (op_32.all fun e => decide (decode prog_7_method_13_code e.1 = .ok (e.2.2.1, e.2.1))) = true := by decide +kernel
/-- CutsOrFast$Net.costOfSet(I)I -/
def op_33 : List (Nat × OpE) := [(0, 1, .iconst 0, x0), (1, 1, .istore_n 2, x0), (2, 1, .iconst 0, x0), (3, 1, .istore_n 3, x0), (4, 1, .iload_n 3, x0), (5, 1, .aload_n 0, x0), (6, 3, .getfield 34, (0, 0, 5, 5, [])), (9, 3, .if_icmp .ge 28, (0, 0, 37, 0, [])), (12, 1, .iload_n 1, x0), (13, 1, .iconst 1, (1, 0, 0, 0, [])), (14, 1, .iload_n 3, x0), (15, 1, .ishl, x0), (16, 1, .iand, x0), (17, 3, .ifCond .eq 14, (0, 0, 31, 0, [])), (20, 1, .iload_n 2, x0), (21, 1, .aload_n 0, x0), (22, 3, .getfield 18, (0, 0, 2, 5, [])), (25, 1, .iload_n 3, x0), (26, 3, .invokestatic 41, (0, 0, 126, 2, [])), (29, 1, .iadd, x0), (30, 1, .istore_n 2, x0), (31, 3, .iinc 3 1, (1, 0, 3, 0, [])), (34, 3, .goto (-30), (0, 0, 4, 0, [])), (37, 1, .iload_n 2, x0), (38, 1, .ireturn, x0)]
theorem de_33 : (op_33.all fun e => decide (decode prog_7_method_14_code e.1 = .ok (e.2.2.1, e.2.1))) = true := by decide +kernel
/-- CutsOrFast$Net.joins(I)Z -/
def op_34 : List (Nat × OpE) := [(0, 1, .aload_n 0, x0), (1, 3, .getfield 24, (0, 0, 4, 5, [])), (4, 1, .iload_n 1, x0), (5, 3, .invokestatic 41, (0, 0, 126, 2, [])), (8, 1, .iconst 1, (1, 0, 0, 0, [])), (9, 1, .aload_n 0, x0), (10, 3, .getfield 31, (0, 0, 7, 5, [])), (13, 1, .ishl, x0), (14, 1, .iand, x0), (15, 3, .ifCond .eq 7, (0, 0, 22, 0, [])), (18, 1, .iconst 1, (1, 0, 0, 0, [])), (19, 3, .goto 4, (0, 0, 23, 0, [])), (22, 1, .iconst 0, x0), (23, 1, .ireturn, x0)]
theorem de_34 : (op_34.all fun e => decide (decode prog_7_method_15_code e.1 = .ok (e.2.2.1, e.2.1))) = true := by decide +kernel
/-- CutsOrFast$Net.placesInUse()I -/
def op_35 : List (Nat × OpE) := [(0, 1, .iconst 1, (1, 0, 0, 0, [])), (1, 1, .aload_n 0, x0), (2, 3, .getfield 27, (0, 0, 6, 5, [])), (5, 1, .ishl, x0), (6, 1, .iconst 1, (1, 0, 0, 0, [])), (7, 1, .aload_n 0, x0), (8, 3, .getfield 31, (0, 0, 7, 5, [])), (11, 1, .ishl, x0), (12, 1, .ior, x0), (13, 1, .istore_n 1, x0), (14, 1, .iconst 0, x0), (15, 1, .istore_n 2, x0), (16, 1, .iload_n 2, x0), (17, 1, .aload_n 0, x0), (18, 3, .getfield 34, (0, 0, 5, 5, [])), (21, 3, .if_icmp .ge 20, (0, 0, 41, 0, [])), (24, 1, .iload_n 1, x0), (25, 1, .aload_n 0, x0), (26, 3, .getfield 21, (0, 0, 3, 5, [])), (29, 1, .iload_n 2, x0), (30, 3, .invokestatic 41, (0, 0, 126, 2, [])), (33, 1, .ior, x0), (34, 1, .istore_n 1, x0), (35, 3, .iinc 2 1, (1, 0, 2, 0, [])), (38, 3, .goto (-22), (0, 0, 16, 0, [])), (41, 1, .iload_n 1, x0), (42, 1, .ireturn, x0)]
theorem de_35 : (op_35.all fun e => decide (decode prog_7_method_16_code e.1 = .ok (e.2.2.1, e.2.1))) = true := by decide +kernel
/-- CutsOrFast$Net.spans(II)Z -/
def op_36 : List (Nat × OpE) := [(0, 1, .iload_n 2, x0), (1, 1, .aload_n 0, x0), (2, 3, .getfield 24, (0, 0, 4, 5, [])), (5, 1, .iload_n 1, x0), (6, 3, .invokestatic 41, (0, 0, 126, 2, [])), (9, 1, .iconst (-1), ((-1), 0, 0, 0, [])), (10, 1, .ixor, x0), (11, 1, .iand, x0), (12, 3, .ifCond .ne 7, (0, 0, 19, 0, [])), (15, 1, .iconst 1, (1, 0, 0, 0, [])), (16, 3, .goto 4, (0, 0, 20, 0, [])), (19, 1, .iconst 0, x0), (20, 1, .ireturn, x0)]
theorem de_36 : (op_36.all fun e => decide (decode prog_7_method_17_code e.1 = .ok (e.2.2.1, e.2.1))) = true := by decide +kernel
/-- CutsOrFast$Net.outcome(II)I -/
def op_37 : List (Nat × OpE) := [(0, 1, .aload_n 0, x0), (1, 1, .iload_n 1, x0), (2, 3, .invokevirtual 52, (0, 0, 0, 1, [(5, 34)])), (5, 3, .ifCond .eq 5, (0, 0, 10, 0, [])), (8, 1, .iconst 1, (1, 0, 0, 0, [])), (9, 1, .ireturn, x0), (10, 1, .aload_n 0, x0), (11, 1, .aload_n 0, x0), (12, 3, .invokevirtual 56, (0, 0, 0, 0, [(5, 27)])), (15, 1, .iload_n 2, x0), (16, 1, .iconst (-1), ((-1), 0, 0, 0, [])), (17, 1, .ixor, x0), (18, 1, .iand, x0), (19, 3, .invokevirtual 52, (0, 0, 0, 1, [(5, 34)])), (22, 3, .ifCond .eq 7, (0, 0, 29, 0, [])), (25, 1, .iconst 0, x0), (26, 3, .goto 4, (0, 0, 30, 0, [])), (29, 1, .iconst 2, (2, 0, 0, 0, [])), (30, 1, .ireturn, x0)]
theorem de_37 : (op_37.all fun e => decide (decode prog_7_method_18_code e.1 = .ok (e.2.2.1, e.2.1))) = true := by decide +kernel
/-- CutsOrFast$Page.<init>()V -/
def op_38 : List (Nat × OpE) := [(0, 1, .aload_n 0, x0), (1, 3, .invokespecial 3, (0, 0, 9999, 0, [])), (4, 1, .aload_n 0, x0), (5, 2, .bipush 50, (50, 0, 0, 0, [])), (7, 2, .newarray .int, (0, 0, 20, 0, [])), (9, 3, .putfield 9, (0, 0, 0, 6, [])), (12, 1, .return_, x0)]
theorem de_38 : (op_38.all fun e => decide (decode prog_8_method_1_code e.1 = .ok (e.2.2.1, e.2.1))) = true := by decide +kernel
/-- CutsOrFast$Page.size()I -/
def op_39 : List (Nat × OpE) := [(0, 1, .aload_n 0, x0), (1, 3, .getfield 15, (0, 0, 1, 6, [])), (4, 1, .ireturn, x0)]
theorem de_39 : (op_39.all fun e => decide (decode prog_8_method_2_code e.1 = .ok (e.2.2.1, e.2.1))) = true := by decide +kernel
/-- CutsOrFast$Page.clear()V -/
def op_40 : List (Nat × OpE) := [(0, 1, .aload_n 0, x0), (1, 1, .iconst 0, x0), (2, 3, .putfield 15, (0, 0, 1, 6, [])), (5, 1, .return_, x0)]
theorem de_40 : (op_40.all fun e => decide (decode prog_8_method_3_code e.1 = .ok (e.2.2.1, e.2.1))) = true := by decide +kernel
/-- CutsOrFast$Page.codeAt(I)I -/
def op_41 : List (Nat × OpE) := [(0, 1, .iload_n 1, x0), (1, 1, .aload_n 0, x0), (2, 3, .getfield 15, (0, 0, 1, 6, [])), (5, 3, .if_icmp .ge 14, (0, 0, 19, 0, [])), (8, 1, .aload_n 0, x0), (9, 3, .getfield 9, (0, 0, 0, 6, [])), (12, 1, .iload_n 1, x0), (13, 3, .invokestatic 19, (0, 0, 126, 2, [])), (16, 3, .goto 4, (0, 0, 20, 0, [])), (19, 1, .iconst 0, x0), (20, 1, .ireturn, x0)]
theorem de_41 : (op_41.all fun e => decide (decode prog_8_method_4_code e.1 = .ok (e.2.2.1, e.2.1))) = true := by decide +kernel
/-- CutsOrFast$Page.append(J)I -/
def op_42 : List (Nat × OpE) := [(0, 1, .iconst 0, x0), (1, 1, .istore_n 3, x0), (2, 1, .iconst 0, x0), (3, 2, .istore 4, x0), (5, 1, .iconst 0, x0), (6, 2, .istore 5, x0), (8, 2, .iload 5, x0), (10, 2, .bipush 8, (8, 0, 0, 0, [])), (12, 3, .if_icmp .ge 51, (0, 0, 63, 0, [])), (15, 1, .lload_n 1, x0), (16, 2, .iload 5, x0), (18, 3, .invokestatic 23, (0, 0, 43, 2, [])), (21, 2, .istore 6, x0), (23, 2, .iload 6, x0), (25, 2, .bipush 126, (126, 0, 0, 0, [])), (27, 3, .if_icmp .gt 13, (0, 0, 40, 0, [])), (30, 2, .iload 4, x0), (32, 3, .ifCond .eq 11, (0, 0, 43, 0, [])), (35, 2, .iload 6, x0), (37, 3, .ifCond .eq 6, (0, 0, 43, 0, [])), (40, 2, .bipush (-102), ((-102), 0, 0, 0, [])), (42, 1, .ireturn, x0), (43, 2, .iload 6, x0), (45, 3, .ifCond .ne 9, (0, 0, 54, 0, [])), (48, 1, .iconst 1, (1, 0, 0, 0, [])), (49, 2, .istore 4, x0), (51, 3, .goto 6, (0, 0, 57, 0, [])), (54, 3, .iinc 3 1, (1, 0, 3, 0, [])), (57, 3, .iinc 5 1, (1, 0, 5, 0, [])), (60, 3, .goto (-52), (0, 0, 8, 0, [])), (63, 1, .aload_n 0, x0), (64, 3, .getfield 15, (0, 0, 1, 6, [])), (67, 1, .iload_n 3, x0), (68, 1, .iadd, x0), (69, 2, .bipush 50, (50, 0, 0, 0, [])), (71, 3, .if_icmp .le 6, (0, 0, 77, 0, [])), (74, 2, .bipush (-104), ((-104), 0, 0, 0, [])), (76, 1, .ireturn, x0), (77, 1, .iconst 0, x0), (78, 2, .istore 5, x0), (80, 2, .iload 5, x0), (82, 1, .iload_n 3, x0), (83, 3, .if_icmp .ge 29, (0, 0, 112, 0, [])), (86, 1, .aload_n 0, x0), (87, 3, .getfield 9, (0, 0, 0, 6, [])), (90, 1, .aload_n 0, x0), (91, 3, .getfield 15, (0, 0, 1, 6, [])), (94, 2, .iload 5, x0), (96, 1, .iadd, x0), (97, 1, .lload_n 1, x0), (98, 2, .iload 5, x0), (100, 3, .invokestatic 23, (0, 0, 43, 2, [])), (103, 3, .invokestatic 27, (0, 0, 127, 3, [])), (106, 3, .iinc 5 1, (1, 0, 5, 0, [])), (109, 3, .goto (-29), (0, 0, 80, 0, [])), (112, 1, .aload_n 0, x0), (113, 1, .dup, x0), (114, 3, .getfield 15, (0, 0, 1, 6, [])), (117, 1, .iload_n 3, x0), (118, 1, .iadd, x0), (119, 3, .putfield 15, (0, 0, 1, 6, [])), (122, 1, .aload_n 0, x0), (123, 3, .getfield 15, (0, 0, 1, 6, [])), (126, 1, .ireturn, x0)]
theorem de_42 : (op_42.all fun e => decide (decode prog_8_method_5_code e.1 = .ok (e.2.2.1, e.2.1))) = true := by decide +kernel
/-- CutsOrFast$Page.byteOf(JI)I -/
def op_43 : List (Nat × OpE) := [(0, 1, .lload_n 0, x0), (1, 2, .bipush 8, (8, 0, 0, 0, [])), (3, 1, .iload_n 2, x0), (4, 1, .imul, x0), (5, 1, .lushr, x0), (6, 3, .ldc2_w 31, (0, 255, 0, 0, [])), (9, 1, .land, x0), (10, 1, .l2i, x0), (11, 1, .ireturn, x0)]
theorem de_43 : (op_43.all fun e => decide (decode prog_8_method_6_code e.1 = .ok (e.2.2.1, e.2.1))) = true := by decide +kernel
/-- CutsOrFast$Page.isNet()Z -/
def op_44 : List (Nat × OpE) := [(0, 1, .aload_n 0, x0), (1, 3, .invokevirtual 33, (0, 0, 0, 0, [(6, 45)])), (4, 1, .aload_n 0, x0), (5, 3, .getfield 15, (0, 0, 1, 6, [])), (8, 3, .if_icmp .ne 15, (0, 0, 23, 0, [])), (11, 1, .aload_n 0, x0), (12, 3, .getfield 37, (0, 0, 2, 6, [])), (15, 1, .iconst 5, (5, 0, 0, 0, [])), (16, 3, .if_icmp .lt 7, (0, 0, 23, 0, [])), (19, 1, .iconst 1, (1, 0, 0, 0, [])), (20, 3, .goto 4, (0, 0, 24, 0, [])), (23, 1, .iconst 0, x0), (24, 1, .ireturn, x0)]
theorem de_44 : (op_44.all fun e => decide (decode prog_8_method_7_code e.1 = .ok (e.2.2.1, e.2.1))) = true := by decide +kernel
/-- CutsOrFast$Page.soundLetters()I -/
def op_45 : List (Nat × OpE) := [(0, 1, .iconst 0, x0), (1, 1, .istore_n 1, x0), (2, 1, .iconst 0, x0), (3, 1, .istore_n 2, x0), (4, 1, .aload_n 0, x0), (5, 1, .iconst 0, x0), (6, 3, .putfield 37, (0, 0, 2, 6, [])), (9, 1, .iconst 0, x0), (10, 1, .istore_n 3, x0), (11, 1, .iload_n 3, x0), (12, 1, .aload_n 0, x0), (13, 3, .getfield 15, (0, 0, 1, 6, [])), (16, 3, .if_icmp .ge 55, (0, 0, 71, 0, [])), (19, 1, .aload_n 0, x0), (20, 1, .iload_n 3, x0), (21, 3, .invokevirtual 40, (0, 0, 0, 1, [(6, 41)])), (24, 2, .istore 4, x0), (26, 1, .aload_n 0, x0), (27, 1, .aload_n 0, x0), (28, 3, .getfield 37, (0, 0, 2, 6, [])), (31, 2, .iload 4, x0), (33, 1, .iload_n 2, x0), (34, 1, .iload_n 1, x0), (35, 3, .invokestatic 44, (0, 0, 46, 4, [])), (38, 3, .putfield 37, (0, 0, 2, 6, [])), (41, 1, .aload_n 0, x0), (42, 3, .getfield 37, (0, 0, 2, 6, [])), (45, 1, .iconst (-1), ((-1), 0, 0, 0, [])), (46, 3, .if_icmp .ne 5, (0, 0, 51, 0, [])), (49, 1, .iload_n 3, x0), (50, 1, .ireturn, x0), (51, 1, .aload_n 0, x0), (52, 3, .getfield 37, (0, 0, 2, 6, [])), (55, 1, .iconst 5, (5, 0, 0, 0, [])), (56, 3, .if_icmp .ne 6, (0, 0, 62, 0, [])), (59, 3, .iinc 1 1, (1, 0, 1, 0, [])), (62, 2, .iload 4, x0), (64, 1, .istore_n 2, x0), (65, 3, .iinc 3 1, (1, 0, 3, 0, [])), (68, 3, .goto (-57), (0, 0, 11, 0, [])), (71, 1, .aload_n 0, x0), (72, 3, .getfield 15, (0, 0, 1, 6, [])), (75, 1, .ireturn, x0)]
theorem de_45 : (op_45.all fun e => decide (decode prog_8_method_8_code e.1 = .ok (e.2.2.1, e.2.1))) = true := by decide +kernel
/-- CutsOrFast$Page.step(IIII)I -/
def op_46 : List (Nat × OpE) := [(0, 1, .iload_n 0, x0), (1, 35, .tableswitch 109 0 4 #[35, 48, 66, 78, 91], (0, 0, 110, 0, [(0, 36), (1, 49), (2, 67), (3, 79), (4, 92)])), (36, 1, .iload_n 1, x0), (37, 3, .invokestatic 48, (0, 0, 48, 1, [])), (40, 3, .ifCond .eq 7, (0, 0, 47, 0, [])), (43, 1, .iconst 1, (1, 0, 0, 0, [])), (44, 3, .goto 4, (0, 0, 48, 0, [])), (47, 1, .iconst (-1), ((-1), 0, 0, 0, [])), (48, 1, .ireturn, x0), (49, 1, .iload_n 1, x0), (50, 3, .invokestatic 48, (0, 0, 48, 1, [])), (53, 3, .ifCond .eq 12, (0, 0, 65, 0, [])), (56, 1, .iload_n 1, x0), (57, 1, .iload_n 2, x0), (58, 3, .if_icmp .eq 7, (0, 0, 65, 0, [])), (61, 1, .iconst 2, (2, 0, 0, 0, [])), (62, 3, .goto 4, (0, 0, 66, 0, [])), (65, 1, .iconst (-1), ((-1), 0, 0, 0, [])), (66, 1, .ireturn, x0), (67, 1, .iload_n 1, x0), (68, 2, .bipush 58, (58, 0, 0, 0, [])), (70, 3, .if_icmp .ne 7, (0, 0, 77, 0, [])), (73, 1, .iconst 3, (3, 0, 0, 0, [])), (74, 3, .goto 4, (0, 0, 78, 0, [])), (77, 1, .iconst (-1), ((-1), 0, 0, 0, [])), (78, 1, .ireturn, x0), (79, 1, .iload_n 1, x0), (80, 3, .invokestatic 48, (0, 0, 48, 1, [])), (83, 3, .ifCond .eq 7, (0, 0, 90, 0, [])), (86, 1, .iconst 4, (4, 0, 0, 0, [])), (87, 3, .goto 4, (0, 0, 91, 0, [])), (90, 1, .iconst (-1), ((-1), 0, 0, 0, [])), (91, 1, .ireturn, x0), (92, 1, .iload_n 1, x0), (93, 3, .invokestatic 48, (0, 0, 48, 1, [])), (96, 3, .ifCond .eq 12, (0, 0, 108, 0, [])), (99, 1, .iload_n 1, x0), (100, 1, .iload_n 2, x0), (101, 3, .if_icmp .eq 7, (0, 0, 108, 0, [])), (104, 1, .iconst 5, (5, 0, 0, 0, [])), (105, 3, .goto 4, (0, 0, 109, 0, [])), (108, 1, .iconst (-1), ((-1), 0, 0, 0, [])), (109, 1, .ireturn, x0), (110, 1, .iload_n 0, x0), (111, 1, .iload_n 1, x0), (112, 1, .iload_n 3, x0), (113, 3, .invokestatic 52, (0, 0, 47, 3, [])), (116, 1, .ireturn, x0)]
theorem de_46 : (op_46.all fun e => decide (decode prog_8_method_9_code e.1 = .ok (e.2.2.1, e.2.1))) = true := by decide +kernel
/-- CutsOrFast$Page.stepBehindPair(III)I -/
def op_47 : List (Nat × OpE) := [(0, 1, .iload_n 1, x0), (1, 2, .bipush 44, (44, 0, 0, 0, [])), (3, 3, .if_icmp .ne 15, (0, 0, 18, 0, [])), (6, 1, .iload_n 2, x0), (7, 2, .bipush 9, (9, 0, 0, 0, [])), (9, 3, .if_icmp .ge 7, (0, 0, 16, 0, [])), (12, 1, .iconst 3, (3, 0, 0, 0, [])), (13, 3, .goto 4, (0, 0, 17, 0, [])), (16, 1, .iconst (-1), ((-1), 0, 0, 0, [])), (17, 1, .ireturn, x0), (18, 1, .iload_n 0, x0), (19, 2, .bipush 7, (7, 0, 0, 0, [])), (21, 3, .if_icmp .ge 13, (0, 0, 34, 0, [])), (24, 1, .iload_n 1, x0), (25, 3, .invokestatic 56, (0, 0, 49, 1, [])), (28, 3, .ifCond .eq 6, (0, 0, 34, 0, [])), (31, 2, .bipush 7, (7, 0, 0, 0, [])), (33, 1, .ireturn, x0), (34, 1, .iload_n 0, x0), (35, 1, .iconst 5, (5, 0, 0, 0, [])), (36, 3, .if_icmp .ne 20, (0, 0, 56, 0, [])), (39, 1, .iload_n 1, x0), (40, 2, .bipush 43, (43, 0, 0, 0, [])), (42, 3, .if_icmp .eq 9, (0, 0, 51, 0, [])), (45, 1, .iload_n 1, x0), (46, 2, .bipush 45, (45, 0, 0, 0, [])), (48, 3, .if_icmp .ne 8, (0, 0, 56, 0, [])), (51, 2, .bipush 6, (6, 0, 0, 0, [])), (53, 3, .goto 4, (0, 0, 57, 0, [])), (56, 1, .iconst (-1), ((-1), 0, 0, 0, [])), (57, 1, .ireturn, x0)]
theorem de_47 : (op_47.all fun e => decide (decode prog_8_method_10_code e.1 = .ok (e.2.2.1, e.2.1))) = true := by decide +kernel
/-- CutsOrFast$Page.isPlace(I)Z -/
def op_48 : List (Nat × OpE) := [(0, 1, .iload_n 0, x0), (1, 2, .bipush 97, (97, 0, 0, 0, [])), (3, 3, .if_icmp .lt 13, (0, 0, 16, 0, [])), (6, 1, .iload_n 0, x0), (7, 2, .bipush 102, (102, 0, 0, 0, [])), (9, 3, .if_icmp .gt 7, (0, 0, 16, 0, [])), (12, 1, .iconst 1, (1, 0, 0, 0, [])), (13, 3, .goto 4, (0, 0, 17, 0, [])), (16, 1, .iconst 0, x0), (17, 1, .ireturn, x0)]
theorem de_48 : (op_48.all fun e => decide (decode prog_8_method_11_code e.1 = .ok (e.2.2.1, e.2.1))) = true := by decide +kernel
/-- CutsOrFast$Page.isCost(I)Z -/
def op_49 : List (Nat × OpE) := [(0, 1, .iload_n 0, x0), (1, 2, .bipush 49, (49, 0, 0, 0, [])), (3, 3, .if_icmp .lt 13, (0, 0, 16, 0, [])), (6, 1, .iload_n 0, x0), (7, 2, .bipush 57, (57, 0, 0, 0, [])), (9, 3, .if_icmp .gt 7, (0, 0, 16, 0, [])), (12, 1, .iconst 1, (1, 0, 0, 0, [])), (13, 3, .goto 4, (0, 0, 17, 0, [])), (16, 1, .iconst 0, x0), (17, 1, .ireturn, x0)]
theorem de_49 : (op_49.all fun e => decide (decode prog_8_method_12_code e.1 = .ok (e.2.2.1, e.2.1))) = true := by decide +kernel
/-- CutsOrFast$Page.readInto(LCutsOrFast$Net;LCutsOrFast$Stand;)V -/
def op_50 : List (Nat × OpE) := [(0, 1, .iconst 0, x0), (1, 1, .istore_n 3, x0), (2, 1, .iconst 0, x0), (3, 2, .istore 4, x0), (5, 1, .iconst 3, (3, 0, 0, 0, [])), (6, 2, .istore 5, x0), (8, 1, .aload_n 1, x0), (9, 1, .aload_n 0, x0), (10, 1, .iconst 0, x0), (11, 3, .invokevirtual 40, (0, 0, 0, 1, [(6, 41)])), (14, 2, .bipush 97, (97, 0, 0, 0, [])), (16, 1, .isub, x0), (17, 1, .aload_n 0, x0), (18, 1, .iconst 1, (1, 0, 0, 0, [])), (19, 3, .invokevirtual 40, (0, 0, 0, 1, [(6, 41)])), (22, 2, .bipush 97, (97, 0, 0, 0, [])), (24, 1, .isub, x0), (25, 3, .invokevirtual 59, (0, 0, 0, 2, [(5, 21)])), (28, 2, .iload 5, x0), (30, 1, .aload_n 0, x0), (31, 3, .getfield 15, (0, 0, 1, 6, [])), (34, 3, .if_icmp .ge 135, (0, 0, 169, 0, [])), (37, 1, .aload_n 1, x0), (38, 3, .invokevirtual 65, (0, 0, 0, 0, [(5, 26)])), (41, 2, .bipush 9, (9, 0, 0, 0, [])), (43, 3, .if_icmp .ge 126, (0, 0, 169, 0, [])), (46, 1, .iconst 1, (1, 0, 0, 0, [])), (47, 1, .aload_n 1, x0), (48, 3, .invokevirtual 65, (0, 0, 0, 0, [(5, 26)])), (51, 1, .ishl, x0), (52, 2, .istore 6, x0), (54, 1, .aload_n 0, x0), (55, 2, .iload 5, x0), (57, 3, .invokevirtual 40, (0, 0, 0, 1, [(6, 41)])), (60, 2, .bipush 97, (97, 0, 0, 0, [])), (62, 1, .isub, x0), (63, 2, .istore 7, x0), (65, 1, .aload_n 0, x0), (66, 2, .iload 5, x0), (68, 1, .iconst 1, (1, 0, 0, 0, [])), (69, 1, .iadd, x0), (70, 3, .invokevirtual 40, (0, 0, 0, 1, [(6, 41)])), (73, 2, .bipush 97, (97, 0, 0, 0, [])), (75, 1, .isub, x0), (76, 2, .istore 8, x0), (78, 1, .iconst 1, (1, 0, 0, 0, [])), (79, 2, .istore 9, x0), (81, 3, .iinc 5 2, (2, 0, 5, 0, [])), (84, 1, .aload_n 0, x0), (85, 2, .iload 5, x0), (87, 3, .invokevirtual 40, (0, 0, 0, 1, [(6, 41)])), (90, 2, .bipush 43, (43, 0, 0, 0, [])), (92, 3, .if_icmp .ne 14, (0, 0, 106, 0, [])), (95, 1, .iload_n 3, x0), (96, 2, .iload 6, x0), (98, 1, .ior, x0), (99, 1, .istore_n 3, x0), (100, 3, .iinc 5 1, (1, 0, 5, 0, [])), (103, 3, .goto 24, (0, 0, 127, 0, [])), (106, 1, .aload_n 0, x0), (107, 2, .iload 5, x0), (109, 3, .invokevirtual 40, (0, 0, 0, 1, [(6, 41)])), (112, 2, .bipush 45, (45, 0, 0, 0, [])), (114, 3, .if_icmp .ne 13, (0, 0, 127, 0, [])), (117, 2, .iload 4, x0), (119, 2, .iload 6, x0), (121, 1, .ior, x0), (122, 2, .istore 4, x0), (124, 3, .iinc 5 1, (1, 0, 5, 0, [])), (127, 1, .aload_n 0, x0), (128, 2, .iload 5, x0), (130, 3, .invokevirtual 40, (0, 0, 0, 1, [(6, 41)])), (133, 3, .invokestatic 56, (0, 0, 49, 1, [])), (136, 3, .ifCond .eq 17, (0, 0, 153, 0, [])), (139, 1, .aload_n 0, x0), (140, 2, .iload 5, x0), (142, 3, .invokevirtual 40, (0, 0, 0, 1, [(6, 41)])), (145, 2, .bipush 48, (48, 0, 0, 0, [])), (147, 1, .isub, x0), (148, 2, .istore 9, x0), (150, 3, .iinc 5 1, (1, 0, 5, 0, [])), (153, 1, .aload_n 1, x0), (154, 2, .iload 7, x0), (156, 2, .iload 8, x0), (158, 2, .iload 9, x0), (160, 3, .invokevirtual 68, (0, 0, 0, 3, [(5, 22)])), (163, 3, .iinc 5 1, (1, 0, 5, 0, [])), (166, 3, .goto (-138), (0, 0, 28, 0, [])), (169, 1, .aload_n 2, x0), (170, 1, .iload_n 3, x0), (171, 2, .iload 4, x0), (173, 3, .invokevirtual 72, (0, 0, 0, 2, [(10, 72)])), (176, 1, .return_, x0)]
theorem de_50 : (op_50.all fun e => decide (decode prog_8_method_13_code e.1 = .ok (e.2.2.1, e.2.1))) = true := by decide +kernel
/-- CutsOrFast$Player.<init>()V -/
def op_51 : List (Nat × OpE) := [(0, 1, .aload_n 0, x0), (1, 3, .invokespecial 1, (0, 0, 9999, 0, [])), (4, 1, .return_, x0)]
theorem de_51 : (op_51.all fun e => decide (decode prog_9_method_1_code e.1 = .ok (e.2.2.1, e.2.1))) = true := by decide +kernel
/-- CutsOrFast$Player.kind()I -/
def op_52 : List (Nat × OpE) := [(0, 1, .iconst 0, x0), (1, 1, .ireturn, x0)]
theorem de_52 : (op_52.all fun e => decide (decode prog_9_method_2_code e.1 = .ok (e.2.2.1, e.2.1))) = true := by decide +kernel
/-- CutsOrFast$Player.choose(LCutsOrFast$Stand;LCutsOrFast$Search;LCutsOrFast$Draws;)I -/
def op_53 : List (Nat × OpE) := [(0, 1, .aload_n 1, x0), (1, 1, .iconst 0, x0), (2, 3, .invokevirtual 7, (0, 0, 0, 1, [(10, 87)])), (5, 1, .ireturn, x0)]
theorem de_53 : (op_53.all fun e => decide (decode prog_9_method_3_code e.1 = .ok (e.2.2.1, e.2.1))) = true := by decide +kernel
/-- CutsOrFast$Search.<init>(LCutsOrFast$Net;)V -/
def op_54 : List (Nat × OpE) := [(0, 1, .aload_n 0, x0), (1, 3, .invokespecial 3, (0, 0, 9999, 0, [])), (4, 1, .aload_n 0, x0), (5, 3, .sipush 1024, (1024, 0, 0, 0, [])), (8, 2, .newarray .int, (0, 0, 20, 0, [])), (10, 3, .putfield 9, (0, 0, 1, 8, [])), (13, 1, .aload_n 0, x0), (14, 2, .ldc 15, (236196, 0, 0, 0, [])), (16, 2, .newarray .long, (0, 0, 21, 0, [])), (18, 3, .putfield 16, (0, 0, 2, 8, [])), (21, 1, .aload_n 0, x0), (22, 1, .lconst 1, (0, 1, 0, 0, [])), (23, 3, .putfield 20, (0, 0, 3, 8, [])), (26, 1, .aload_n 0, x0), (27, 1, .lconst 1, (0, 1, 0, 0, [])), (28, 3, .putfield 24, (0, 0, 4, 8, [])), (31, 1, .aload_n 0, x0), (32, 1, .aload_n 1, x0), (33, 3, .putfield 27, (0, 0, 0, 8, [])), (36, 1, .iconst 1, (1, 0, 0, 0, [])), (37, 1, .istore_n 2, x0), (38, 1, .iconst 0, x0), (39, 1, .istore_n 3, x0), (40, 1, .iload_n 3, x0), (41, 2, .bipush 9, (9, 0, 0, 0, [])), (43, 3, .if_icmp .gt 57, (0, 0, 100, 0, [])), (46, 1, .iconst 1, (1, 0, 0, 0, [])), (47, 1, .iload_n 3, x0), (48, 1, .ishl, x0), (49, 2, .istore 4, x0), (51, 1, .iconst 0, x0), (52, 2, .istore 5, x0), (54, 2, .iload 5, x0), (56, 2, .iload 4, x0), (58, 3, .if_icmp .ge 32, (0, 0, 90, 0, [])), (61, 1, .aload_n 0, x0), (62, 3, .getfield 9, (0, 0, 1, 8, [])), (65, 2, .iload 5, x0), (67, 2, .iload 4, x0), (69, 1, .ior, x0), (70, 1, .aload_n 0, x0), (71, 3, .getfield 9, (0, 0, 1, 8, [])), (74, 2, .iload 5, x0), (76, 3, .invokestatic 31, (0, 0, 126, 2, [])), (79, 1, .iload_n 2, x0), (80, 1, .iadd, x0), (81, 3, .invokestatic 35, (0, 0, 127, 3, [])), (84, 3, .iinc 5 1, (1, 0, 5, 0, [])), (87, 3, .goto (-33), (0, 0, 54, 0, [])), (90, 1, .iload_n 2, x0), (91, 1, .iconst 3, (3, 0, 0, 0, [])), (92, 1, .imul, x0), (93, 1, .istore_n 2, x0), (94, 3, .iinc 3 1, (1, 0, 3, 0, [])), (97, 3, .goto (-57), (0, 0, 40, 0, [])), (100, 1, .return_, x0)]
theorem de_54 : (op_54.all fun e => decide (decode prog_10_method_1_code e.1 = .ok (e.2.2.1, e.2.1))) = true := by decide +kernel
/-- CutsOrFast$Search.forget()V -/
def op_55 : List (Nat × OpE) := [(0, 1, .aload_n 0, x0), (1, 1, .dup, x0), (2, 3, .getfield 24, (0, 0, 4, 8, [])), (5, 1, .lconst 1, (0, 1, 0, 0, [])), (6, 1, .ladd, x0), (7, 3, .putfield 24, (0, 0, 4, 8, [])), (10, 1, .aload_n 0, x0), (11, 1, .aload_n 0, x0), (12, 3, .getfield 24, (0, 0, 4, 8, [])), (15, 3, .putfield 20, (0, 0, 3, 8, [])), (18, 1, .return_, x0)]
theorem de_55 : (op_55.all fun e => decide (decode prog_10_method_2_code e.1 = .ok (e.2.2.1, e.2.1))) = true := by decide +kernel
/-- CutsOrFast$Search.stampNow()J -/
def op_56 : List (Nat × OpE) := [(0, 1, .aload_n 0, x0), (1, 3, .getfield 20, (0, 0, 3, 8, [])), (4, 1, .lreturn, x0)]
theorem de_56 : (op_56.all fun e => decide (decode prog_10_method_3_code e.1 = .ok (e.2.2.1, e.2.1))) = true := by decide +kernel
/-- CutsOrFast$Search.recall(J)V -/
def op_57 : List (Nat × OpE) := [(0, 1, .aload_n 0, x0), (1, 1, .lload_n 1, x0), (2, 3, .putfield 20, (0, 0, 3, 8, [])), (5, 1, .return_, x0)]
theorem de_57 : (op_57.all fun e => decide (decode prog_10_method_4_code e.1 = .ok (e.2.2.1, e.2.1))) = true := by decide +kernel
/-- CutsOrFast$Search.owner(III)I -/
def op_58 : List (Nat × OpE) := [(0, 1, .aload_n 0, x0), (1, 1, .iconst 3, (3, 0, 0, 0, [])), (2, 1, .iload_n 1, x0), (3, 1, .iload_n 2, x0), (4, 1, .iload_n 3, x0), (5, 3, .invokevirtual 39, (0, 0, 0, 4, [(8, 60)])), (8, 3, .ifCond .le 7, (0, 0, 15, 0, [])), (11, 1, .iconst 0, x0), (12, 3, .goto 4, (0, 0, 16, 0, [])), (15, 1, .iconst 1, (1, 0, 0, 0, [])), (16, 1, .ireturn, x0)]
theorem de_58 : (op_58.all fun e => decide (decode prog_10_method_5_code e.1 = .ok (e.2.2.1, e.2.1))) = true := by decide +kernel
/-- CutsOrFast$Search.leastGood(III)I -/
def op_59 : List (Nat × OpE) := [(0, 1, .aload_n 0, x0), (1, 3, .getfield 27, (0, 0, 0, 8, [])), (4, 1, .iload_n 1, x0), (5, 1, .iload_n 2, x0), (6, 3, .invokevirtual 43, (0, 0, 0, 2, [(5, 37)])), (9, 3, .ifCond .eq 5, (0, 0, 14, 0, [])), (12, 1, .iconst (-1), ((-1), 0, 0, 0, [])), (13, 1, .ireturn, x0), (14, 1, .aload_n 0, x0), (15, 3, .getfield 27, (0, 0, 0, 8, [])), (18, 3, .invokevirtual 49, (0, 0, 0, 0, [(5, 27)])), (21, 1, .iload_n 1, x0), (22, 1, .iconst (-1), ((-1), 0, 0, 0, [])), (23, 1, .ixor, x0), (24, 1, .iand, x0), (25, 1, .iload_n 2, x0), (26, 1, .iconst (-1), ((-1), 0, 0, 0, [])), (27, 1, .ixor, x0), (28, 1, .iand, x0), (29, 2, .istore 4, x0), (31, 1, .iconst 0, x0), (32, 2, .istore 5, x0), (34, 2, .iload 5, x0), (36, 1, .aload_n 0, x0), (37, 3, .getfield 27, (0, 0, 0, 8, [])), (40, 3, .invokevirtual 53, (0, 0, 0, 0, [(5, 26)])), (43, 3, .if_icmp .ge 61, (0, 0, 104, 0, [])), (46, 1, .iconst 1, (1, 0, 0, 0, [])), (47, 2, .iload 5, x0), (49, 1, .ishl, x0), (50, 2, .istore 6, x0), (52, 2, .iload 4, x0), (54, 2, .iload 6, x0), (56, 1, .iand, x0), (57, 3, .ifCond .eq 41, (0, 0, 98, 0, [])), (60, 1, .iload_n 3, x0), (61, 3, .ifCond .ne 16, (0, 0, 77, 0, [])), (64, 1, .aload_n 0, x0), (65, 1, .iload_n 1, x0), (66, 2, .iload 6, x0), (68, 1, .ior, x0), (69, 1, .iload_n 2, x0), (70, 1, .iconst 1, (1, 0, 0, 0, [])), (71, 3, .invokevirtual 56, (0, 0, 0, 3, [(8, 58)])), (74, 3, .goto 13, (0, 0, 87, 0, [])), (77, 1, .aload_n 0, x0), (78, 1, .iload_n 1, x0), (79, 1, .iload_n 2, x0), (80, 2, .iload 6, x0), (82, 1, .ior, x0), (83, 1, .iconst 0, x0), (84, 3, .invokevirtual 56, (0, 0, 0, 3, [(8, 58)])), (87, 2, .istore 7, x0), (89, 2, .iload 7, x0), (91, 1, .iload_n 3, x0), (92, 3, .if_icmp .ne 6, (0, 0, 98, 0, [])), (95, 2, .iload 5, x0), (97, 1, .ireturn, x0), (98, 3, .iinc 5 1, (1, 0, 5, 0, [])), (101, 3, .goto (-67), (0, 0, 34, 0, [])), (104, 1, .iconst (-1), ((-1), 0, 0, 0, [])), (105, 1, .ireturn, x0)]
theorem de_59 : (op_59.all fun e => decide (decode prog_10_method_6_code e.1 = .ok (e.2.2.1, e.2.1))) = true := by decide +kernel
/-- CutsOrFast$Search.worth(IIII)I -/
def op_60 : List (Nat × OpE) := [(0, 1, .aload_n 0, x0), (1, 3, .getfield 27, (0, 0, 0, 8, [])), (4, 3, .invokevirtual 49, (0, 0, 0, 0, [(5, 27)])), (7, 1, .iload_n 2, x0), (8, 1, .iconst (-1), ((-1), 0, 0, 0, [])), (9, 1, .ixor, x0), (10, 1, .iand, x0), (11, 1, .iload_n 3, x0), (12, 1, .iconst (-1), ((-1), 0, 0, 0, [])), (13, 1, .ixor, x0), (14, 1, .iand, x0), (15, 2, .istore 5, x0), (17, 1, .aload_n 0, x0), (18, 1, .iload_n 1, x0), (19, 1, .iload_n 2, x0), (20, 1, .iload_n 3, x0), (21, 2, .iload 4, x0), (23, 2, .iload 5, x0), (25, 3, .invokestatic 60, (0, 0, 199, 1, [])), (28, 3, .invokevirtual 66, (0, 0, 0, 5, [(8, 61)])), (31, 1, .ireturn, x0)]
theorem de_60 : (op_60.all fun e => decide (decode prog_10_method_7_code e.1 = .ok (e.2.2.1, e.2.1))) = true := by decide +kernel
/-- CutsOrFast$Search.worthOf(IIIII)I -/
def op_61 : List (Nat × OpE) := [(0, 1, .aload_n 0, x0), (1, 3, .getfield 27, (0, 0, 0, 8, [])), (4, 1, .iload_n 2, x0), (5, 3, .invokevirtual 70, (0, 0, 0, 1, [(5, 34)])), (8, 3, .ifCond .eq 9, (0, 0, 17, 0, [])), (11, 2, .iload 5, x0), (13, 3, .invokestatic 74, (0, 0, 124, 1, [])), (16, 1, .ireturn, x0), (17, 2, .iload 5, x0), (19, 3, .ifCond .le 24, (0, 0, 43, 0, [])), (22, 1, .aload_n 0, x0), (23, 3, .getfield 27, (0, 0, 0, 8, [])), (26, 1, .aload_n 0, x0), (27, 3, .getfield 27, (0, 0, 0, 8, [])), (30, 3, .invokevirtual 49, (0, 0, 0, 0, [(5, 27)])), (33, 1, .iload_n 3, x0), (34, 1, .iconst (-1), ((-1), 0, 0, 0, [])), (35, 1, .ixor, x0), (36, 1, .iand, x0), (37, 3, .invokevirtual 70, (0, 0, 0, 1, [(5, 34)])), (40, 3, .ifCond .ne 5, (0, 0, 45, 0, [])), (43, 1, .iconst 0, x0), (44, 1, .ireturn, x0), (45, 1, .aload_n 0, x0), (46, 1, .iload_n 1, x0), (47, 1, .iload_n 2, x0), (48, 1, .iload_n 3, x0), (49, 2, .iload 4, x0), (51, 3, .invokevirtual 77, (0, 0, 0, 4, [(8, 62)])), (54, 2, .istore 6, x0), (56, 2, .iload 6, x0), (58, 3, .ifCond .lt 13, (0, 0, 71, 0, [])), (61, 2, .iload 6, x0), (63, 1, .aload_n 0, x0), (64, 3, .getfield 16, (0, 0, 2, 8, [])), (67, 1, .arraylength, x0), (68, 3, .if_icmp .lt 5, (0, 0, 73, 0, [])), (71, 1, .iconst 0, x0), (72, 1, .ireturn, x0), (73, 1, .aload_n 0, x0), (74, 3, .getfield 16, (0, 0, 2, 8, [])), (77, 2, .iload 6, x0), (79, 1, .laload, x0), (80, 2, .bipush 32, (32, 0, 0, 0, [])), (82, 1, .lushr, x0), (83, 1, .aload_n 0, x0), (84, 3, .getfield 20, (0, 0, 3, 8, [])), (87, 1, .lcmp, x0), (88, 3, .ifCond .ne 12, (0, 0, 100, 0, [])), (91, 1, .aload_n 0, x0), (92, 3, .getfield 16, (0, 0, 2, 8, [])), (95, 2, .iload 6, x0), (97, 1, .laload, x0), (98, 1, .l2i, x0), (99, 1, .ireturn, x0), (100, 1, .aload_n 0, x0), (101, 1, .iload_n 1, x0), (102, 1, .iload_n 2, x0), (103, 1, .iload_n 3, x0), (104, 2, .iload 4, x0), (106, 2, .iload 5, x0), (108, 3, .invokevirtual 80, (0, 0, 0, 5, [(8, 64)])), (111, 2, .istore 7, x0), (113, 1, .aload_n 0, x0), (114, 3, .getfield 16, (0, 0, 2, 8, [])), (117, 2, .iload 6, x0), (119, 1, .aload_n 0, x0), (120, 3, .getfield 20, (0, 0, 3, 8, [])), (123, 2, .bipush 32, (32, 0, 0, 0, [])), (125, 1, .lshl, x0), (126, 2, .iload 7, x0), (128, 1, .i2l, x0), (129, 1, .lor, x0), (130, 1, .lastore, x0), (131, 2, .iload 7, x0), (133, 1, .ireturn, x0)]
theorem de_61 : (op_61.all fun e => decide (decode prog_10_method_8_code e.1 = .ok (e.2.2.1, e.2.1))) = true := by decide +kernel
/-- CutsOrFast$Search.placeOf(IIII)I -/
def op_62 : List (Nat × OpE) := [(0, 1, .aload_n 0, x0), (1, 3, .getfield 9, (0, 0, 1, 8, [])), (4, 1, .iload_n 2, x0), (5, 3, .invokestatic 31, (0, 0, 126, 2, [])), (8, 1, .iconst 2, (2, 0, 0, 0, [])), (9, 1, .aload_n 0, x0), (10, 3, .getfield 9, (0, 0, 1, 8, [])), (13, 1, .iload_n 3, x0), (14, 3, .invokestatic 31, (0, 0, 126, 2, [])), (17, 1, .imul, x0), (18, 1, .iadd, x0), (19, 2, .istore 5, x0), (21, 1, .iload_n 1, x0), (22, 1, .iconst 3, (3, 0, 0, 0, [])), (23, 3, .if_icmp .ne 12, (0, 0, 35, 0, [])), (26, 2, .iload 4, x0), (28, 2, .ldc 83, (59049, 0, 0, 0, [])), (30, 1, .imul, x0), (31, 2, .iload 5, x0), (33, 1, .iadd, x0), (34, 1, .ireturn, x0), (35, 2, .ldc 84, (118098, 0, 0, 0, [])), (37, 1, .iconst 2, (2, 0, 0, 0, [])), (38, 1, .iload_n 1, x0), (39, 1, .imul, x0), (40, 2, .iload 4, x0), (42, 1, .iadd, x0), (43, 3, .sipush 19683, (19683, 0, 0, 0, [])), (46, 1, .imul, x0), (47, 1, .iadd, x0), (48, 2, .iload 5, x0), (50, 1, .iadd, x0), (51, 1, .ireturn, x0)]
theorem de_62 : (op_62.all fun e => decide (decode prog_10_method_9_code e.1 = .ok (e.2.2.1, e.2.1))) = true := by decide +kernel
/-- CutsOrFast$Search.movesByChance(II)Z -/
def op_63 : List (Nat × OpE) := [(0, 1, .iload_n 0, x0), (1, 1, .iconst 2, (2, 0, 0, 0, [])), (2, 3, .if_icmp .eq 21, (0, 0, 23, 0, [])), (5, 1, .iload_n 0, x0), (6, 3, .ifCond .ne 8, (0, 0, 14, 0, [])), (9, 1, .iload_n 1, x0), (10, 1, .iconst 1, (1, 0, 0, 0, [])), (11, 3, .if_icmp .eq 12, (0, 0, 23, 0, [])), (14, 1, .iload_n 0, x0), (15, 1, .iconst 1, (1, 0, 0, 0, [])), (16, 3, .if_icmp .ne 11, (0, 0, 27, 0, [])), (19, 1, .iload_n 1, x0), (20, 3, .ifCond .ne 7, (0, 0, 27, 0, [])), (23, 1, .iconst 1, (1, 0, 0, 0, [])), (24, 3, .goto 4, (0, 0, 28, 0, [])), (27, 1, .iconst 0, x0), (28, 1, .ireturn, x0)]
theorem de_63 : (op_63.all fun e => decide (decode prog_10_method_10_code e.1 = .ok (e.2.2.1, e.2.1))) = true := by decide +kernel
/-- CutsOrFast$Search.worthByMoves(IIIII)I -/
def op_64 : List (Nat × OpE) := [(0, 1, .aload_n 0, x0), (1, 3, .getfield 27, (0, 0, 0, 8, [])), (4, 3, .invokevirtual 49, (0, 0, 0, 0, [(5, 27)])), (7, 1, .iload_n 2, x0), (8, 1, .iconst (-1), ((-1), 0, 0, 0, [])), (9, 1, .ixor, x0), (10, 1, .iand, x0), (11, 1, .iload_n 3, x0), (12, 1, .iconst (-1), ((-1), 0, 0, 0, [])), (13, 1, .ixor, x0), (14, 1, .iand, x0), (15, 2, .istore 6, x0), (17, 1, .iload_n 1, x0), (18, 2, .iload 4, x0), (20, 3, .invokestatic 85, (0, 0, 63, 2, [])), (23, 2, .istore 7, x0), (25, 2, .iload 5, x0), (27, 1, .iconst 1, (1, 0, 0, 0, [])), (28, 1, .isub, x0), (29, 3, .invokestatic 74, (0, 0, 124, 1, [])), (32, 2, .istore 8, x0), (34, 2, .iload 4, x0), (36, 3, .ifCond .ne 8, (0, 0, 44, 0, [])), (39, 2, .iload 8, x0), (41, 3, .goto 4, (0, 0, 45, 0, [])), (44, 1, .iconst 0, x0), (45, 2, .istore 9, x0), (47, 2, .iload 8, x0), (49, 2, .iload 9, x0), (51, 1, .isub, x0), (52, 2, .istore 10, x0), (54, 1, .iconst 0, x0), (55, 2, .istore 11, x0), (57, 1, .iconst 0, x0), (58, 2, .istore 12, x0), (60, 2, .iload 12, x0), (62, 1, .aload_n 0, x0), (63, 3, .getfield 27, (0, 0, 0, 8, [])), (66, 3, .invokevirtual 53, (0, 0, 0, 0, [(5, 26)])), (69, 3, .if_icmp .ge 106, (0, 0, 175, 0, [])), (72, 2, .iload 7, x0), (74, 3, .ifCond .ne 10, (0, 0, 84, 0, [])), (77, 2, .iload 10, x0), (79, 2, .iload 9, x0), (81, 3, .if_icmp .eq 94, (0, 0, 175, 0, [])), (84, 1, .iconst 1, (1, 0, 0, 0, [])), (85, 2, .iload 12, x0), (87, 1, .ishl, x0), (88, 2, .istore 13, x0), (90, 2, .iload 6, x0), (92, 2, .iload 13, x0), (94, 1, .iand, x0), (95, 3, .ifCond .eq 74, (0, 0, 169, 0, [])), (98, 2, .iload 4, x0), (100, 3, .ifCond .ne 21, (0, 0, 121, 0, [])), (103, 1, .aload_n 0, x0), (104, 1, .iload_n 1, x0), (105, 1, .iload_n 2, x0), (106, 2, .iload 13, x0), (108, 1, .ior, x0), (109, 1, .iload_n 3, x0), (110, 1, .iconst 1, (1, 0, 0, 0, [])), (111, 2, .iload 5, x0), (113, 1, .iconst 1, (1, 0, 0, 0, [])), (114, 1, .isub, x0), (115, 3, .invokevirtual 66, (0, 0, 0, 5, [(8, 61)])), (118, 3, .goto 18, (0, 0, 136, 0, [])), (121, 1, .aload_n 0, x0), (122, 1, .iload_n 1, x0), (123, 1, .iload_n 2, x0), (124, 1, .iload_n 3, x0), (125, 2, .iload 13, x0), (127, 1, .ior, x0), (128, 1, .iconst 0, x0), (129, 2, .iload 5, x0), (131, 1, .iconst 1, (1, 0, 0, 0, [])), (132, 1, .isub, x0), (133, 3, .invokevirtual 66, (0, 0, 0, 5, [(8, 61)])), (136, 2, .istore 14, x0), (138, 2, .iload 11, x0), (140, 2, .iload 14, x0), (142, 1, .iadd, x0), (143, 2, .istore 11, x0), (145, 2, .iload 4, x0), (147, 3, .ifCond .ne 13, (0, 0, 160, 0, [])), (150, 2, .iload 10, x0), (152, 2, .iload 14, x0), (154, 3, .invokestatic 89, (0, 0, 9001, 2, [])), (157, 3, .goto 10, (0, 0, 167, 0, [])), (160, 2, .iload 10, x0), (162, 2, .iload 14, x0), (164, 3, .invokestatic 94, (0, 0, 9002, 2, [])), (167, 2, .istore 10, x0), (169, 3, .iinc 12 1, (1, 0, 12, 0, [])), (172, 3, .goto (-112), (0, 0, 60, 0, [])), (175, 2, .iload 7, x0), (177, 3, .ifCond .eq 8, (0, 0, 185, 0, [])), (180, 2, .iload 11, x0), (182, 3, .goto 8, (0, 0, 190, 0, [])), (185, 2, .iload 5, x0), (187, 2, .iload 10, x0), (189, 1, .imul, x0), (190, 1, .ireturn, x0)]
theorem de_64 : (op_64.all fun e => decide (decode prog_10_method_11_code e.1 = .ok (e.2.2.1, e.2.1))) = true := by decide +kernel
/-- CutsOrFast$Sets.<init>(LCutsOrFast$Net;LCutsOrFast$Search;)V -/
def op_65 : List (Nat × OpE) := [(0, 1, .aload_n 0, x0), (1, 3, .invokespecial 3, (0, 0, 9999, 0, [])), (4, 1, .aload_n 0, x0), (5, 1, .aload_n 1, x0), (6, 3, .putfield 9, (0, 0, 0, 9, [])), (9, 1, .aload_n 0, x0), (10, 1, .aload_n 2, x0), (11, 3, .putfield 15, (0, 0, 1, 9, [])), (14, 1, .return_, x0)]
theorem de_65 : (op_65.all fun e => decide (decode prog_11_method_1_code e.1 = .ok (e.2.2.1, e.2.1))) = true := by decide +kernel
/-- CutsOrFast$Sets.twoWays(II)I -/
def op_66 : List (Nat × OpE) := [(0, 1, .aload_n 0, x0), (1, 3, .getfield 9, (0, 0, 0, 9, [])), (4, 3, .invokevirtual 19, (0, 0, 0, 0, [(5, 27)])), (7, 1, .iload_n 2, x0), (8, 1, .iconst (-1), ((-1), 0, 0, 0, [])), (9, 1, .ixor, x0), (10, 1, .iand, x0), (11, 1, .istore_n 3, x0), (12, 1, .aload_n 0, x0), (13, 3, .getfield 9, (0, 0, 0, 9, [])), (16, 3, .invokevirtual 25, (0, 0, 0, 0, [(5, 35)])), (19, 2, .istore 4, x0), (21, 1, .iconst 0, x0), (22, 2, .istore 5, x0), (24, 2, .iload 5, x0), (26, 1, .iload_n 3, x0), (27, 3, .if_icmp .gt 67, (0, 0, 94, 0, [])), (30, 2, .iload 5, x0), (32, 1, .iload_n 3, x0), (33, 1, .iconst (-1), ((-1), 0, 0, 0, [])), (34, 1, .ixor, x0), (35, 1, .iand, x0), (36, 3, .ifCond .ne 7, (0, 0, 43, 0, [])), (39, 1, .iconst 1, (1, 0, 0, 0, [])), (40, 3, .goto 4, (0, 0, 44, 0, [])), (43, 1, .iconst 0, x0), (44, 2, .istore 6, x0), (46, 2, .iload 6, x0), (48, 3, .ifCond .eq 40, (0, 0, 88, 0, [])), (51, 1, .aload_n 0, x0), (52, 3, .getfield 9, (0, 0, 0, 9, [])), (55, 2, .iload 5, x0), (57, 2, .iload 4, x0), (59, 3, .invokevirtual 28, (0, 0, 0, 2, [(5, 36)])), (62, 3, .ifCond .eq 26, (0, 0, 88, 0, [])), (65, 1, .aload_n 0, x0), (66, 3, .getfield 9, (0, 0, 0, 9, [])), (69, 1, .iload_n 3, x0), (70, 2, .iload 5, x0), (72, 1, .iconst (-1), ((-1), 0, 0, 0, [])), (73, 1, .ixor, x0), (74, 1, .iand, x0), (75, 1, .iload_n 1, x0), (76, 1, .ior, x0), (77, 2, .iload 4, x0), (79, 3, .invokevirtual 28, (0, 0, 0, 2, [(5, 36)])), (82, 3, .ifCond .eq 6, (0, 0, 88, 0, [])), (85, 2, .iload 5, x0), (87, 1, .ireturn, x0), (88, 3, .iinc 5 1, (1, 0, 5, 0, [])), (91, 3, .goto (-67), (0, 0, 24, 0, [])), (94, 1, .iconst (-1), ((-1), 0, 0, 0, [])), (95, 1, .ireturn, x0)]
theorem de_66 : (op_66.all fun e => decide (decode prog_11_method_2_code e.1 = .ok (e.2.2.1, e.2.1))) = true := by decide +kernel
/-- CutsOrFast$Sets.fewestCuts(II)I -/
def op_67 : List (Nat × OpE) := [(0, 1, .aload_n 0, x0), (1, 3, .getfield 9, (0, 0, 0, 9, [])), (4, 3, .invokevirtual 19, (0, 0, 0, 0, [(5, 27)])), (7, 1, .iload_n 2, x0), (8, 1, .iconst (-1), ((-1), 0, 0, 0, [])), (9, 1, .ixor, x0), (10, 1, .iand, x0), (11, 1, .istore_n 3, x0), (12, 1, .iload_n 3, x0), (13, 1, .iload_n 1, x0), (14, 1, .iconst (-1), ((-1), 0, 0, 0, [])), (15, 1, .ixor, x0), (16, 1, .iand, x0), (17, 2, .istore 4, x0), (19, 1, .iconst (-1), ((-1), 0, 0, 0, [])), (20, 2, .istore 5, x0), (22, 2, .bipush 10, (10, 0, 0, 0, [])), (24, 2, .istore 6, x0), (26, 1, .iconst 0, x0), (27, 2, .istore 7, x0), (29, 2, .iload 7, x0), (31, 2, .iload 4, x0), (33, 3, .if_icmp .gt 57, (0, 0, 90, 0, [])), (36, 2, .iload 7, x0), (38, 3, .invokestatic 32, (0, 0, 199, 1, [])), (41, 2, .istore 8, x0), (43, 2, .iload 7, x0), (45, 2, .iload 4, x0), (47, 1, .iconst (-1), ((-1), 0, 0, 0, [])), (48, 1, .ixor, x0), (49, 1, .iand, x0), (50, 3, .ifCond .ne 34, (0, 0, 84, 0, [])), (53, 2, .iload 8, x0), (55, 2, .iload 6, x0), (57, 3, .if_icmp .ge 27, (0, 0, 84, 0, [])), (60, 1, .aload_n 0, x0), (61, 3, .getfield 9, (0, 0, 0, 9, [])), (64, 1, .iload_n 3, x0), (65, 2, .iload 7, x0), (67, 1, .iconst (-1), ((-1), 0, 0, 0, [])), (68, 1, .ixor, x0), (69, 1, .iand, x0), (70, 3, .invokevirtual 38, (0, 0, 0, 1, [(5, 34)])), (73, 3, .ifCond .ne 11, (0, 0, 84, 0, [])), (76, 2, .iload 7, x0), (78, 2, .istore 5, x0), (80, 2, .iload 8, x0), (82, 2, .istore 6, x0), (84, 3, .iinc 7 1, (1, 0, 7, 0, [])), (87, 3, .goto (-58), (0, 0, 29, 0, [])), (90, 2, .iload 5, x0), (92, 1, .ireturn, x0)]
theorem de_67 : (op_67.all fun e => decide (decode prog_11_method_3_code e.1 = .ok (e.2.2.1, e.2.1))) = true := by decide +kernel
/-- CutsOrFast$Sets.cheapest(II)I -/
def op_68 : List (Nat × OpE) := [(0, 1, .aload_n 0, x0), (1, 3, .getfield 9, (0, 0, 0, 9, [])), (4, 3, .invokevirtual 19, (0, 0, 0, 0, [(5, 27)])), (7, 1, .iload_n 1, x0), (8, 1, .iconst (-1), ((-1), 0, 0, 0, [])), (9, 1, .ixor, x0), (10, 1, .iand, x0), (11, 1, .iload_n 2, x0), (12, 1, .iconst (-1), ((-1), 0, 0, 0, [])), (13, 1, .ixor, x0), (14, 1, .iand, x0), (15, 1, .istore_n 3, x0), (16, 1, .iconst (-1), ((-1), 0, 0, 0, [])), (17, 2, .istore 4, x0), (19, 1, .aload_n 0, x0), (20, 3, .getfield 9, (0, 0, 0, 9, [])), (23, 1, .iload_n 3, x0), (24, 3, .invokevirtual 42, (0, 0, 0, 1, [(5, 33)])), (27, 1, .iconst 1, (1, 0, 0, 0, [])), (28, 1, .iadd, x0), (29, 2, .istore 5, x0), (31, 1, .iconst 0, x0), (32, 2, .istore 6, x0), (34, 2, .iload 6, x0), (36, 1, .iload_n 3, x0), (37, 3, .if_icmp .gt 60, (0, 0, 97, 0, [])), (40, 2, .iload 6, x0), (42, 1, .iload_n 3, x0), (43, 1, .iconst (-1), ((-1), 0, 0, 0, [])), (44, 1, .ixor, x0), (45, 1, .iand, x0), (46, 3, .ifCond .ne 45, (0, 0, 91, 0, [])), (49, 1, .aload_n 0, x0), (50, 3, .getfield 9, (0, 0, 0, 9, [])), (53, 2, .iload 6, x0), (55, 3, .invokevirtual 42, (0, 0, 0, 1, [(5, 33)])), (58, 2, .istore 7, x0), (60, 2, .iload 7, x0), (62, 2, .iload 5, x0), (64, 3, .if_icmp .ge 27, (0, 0, 91, 0, [])), (67, 1, .aload_n 0, x0), (68, 3, .getfield 15, (0, 0, 1, 9, [])), (71, 1, .iload_n 1, x0), (72, 2, .iload 6, x0), (74, 1, .ior, x0), (75, 1, .iload_n 2, x0), (76, 1, .iconst 1, (1, 0, 0, 0, [])), (77, 3, .invokevirtual 45, (0, 0, 0, 3, [(8, 58)])), (80, 3, .ifCond .ne 11, (0, 0, 91, 0, [])), (83, 2, .iload 6, x0), (85, 2, .istore 4, x0), (87, 2, .iload 7, x0), (89, 2, .istore 5, x0), (91, 3, .iinc 6 1, (1, 0, 6, 0, [])), (94, 3, .goto (-60), (0, 0, 34, 0, [])), (97, 2, .iload 4, x0), (99, 1, .ireturn, x0)]
theorem de_68 : (op_68.all fun e => decide (decode prog_11_method_4_code e.1 = .ok (e.2.2.1, e.2.1))) = true := by decide +kernel
/-- CutsOrFast$Sets.oneMore(II)I -/
def op_69 : List (Nat × OpE) := [(0, 1, .aload_n 0, x0), (1, 3, .getfield 15, (0, 0, 1, 9, [])), (4, 1, .iload_n 1, x0), (5, 1, .iload_n 2, x0), (6, 1, .iconst 1, (1, 0, 0, 0, [])), (7, 3, .invokevirtual 45, (0, 0, 0, 3, [(8, 58)])), (10, 3, .ifCond .ne 5, (0, 0, 15, 0, [])), (13, 1, .iconst (-1), ((-1), 0, 0, 0, [])), (14, 1, .ireturn, x0), (15, 1, .aload_n 0, x0), (16, 3, .getfield 15, (0, 0, 1, 9, [])), (19, 1, .iload_n 1, x0), (20, 1, .iload_n 2, x0), (21, 1, .iconst 0, x0), (22, 3, .invokevirtual 45, (0, 0, 0, 3, [(8, 58)])), (25, 1, .iconst 1, (1, 0, 0, 0, [])), (26, 3, .if_icmp .ne 6, (0, 0, 32, 0, [])), (29, 2, .bipush (-2), ((-2), 0, 0, 0, [])), (31, 1, .ireturn, x0), (32, 1, .aload_n 0, x0), (33, 3, .getfield 15, (0, 0, 1, 9, [])), (36, 3, .invokevirtual 51, (0, 0, 0, 0, [(8, 56)])), (39, 1, .lstore_n 3, x0), (40, 2, .bipush (-2), ((-2), 0, 0, 0, [])), (42, 2, .istore 5, x0), (44, 1, .iconst 0, x0), (45, 2, .istore 6, x0), (47, 2, .iload 6, x0), (49, 2, .bipush 36, (36, 0, 0, 0, [])), (51, 3, .if_icmp .ge 52, (0, 0, 103, 0, [])), (54, 2, .iload 5, x0), (56, 2, .bipush (-2), ((-2), 0, 0, 0, [])), (58, 3, .if_icmp .ne 45, (0, 0, 103, 0, [])), (61, 2, .iload 6, x0), (63, 2, .bipush 6, (6, 0, 0, 0, [])), (65, 1, .idiv, x0), (66, 2, .iload 6, x0), (68, 2, .bipush 6, (6, 0, 0, 0, [])), (70, 1, .irem, x0), (71, 3, .if_icmp .ge 26, (0, 0, 97, 0, [])), (74, 1, .aload_n 0, x0), (75, 2, .iload 6, x0), (77, 2, .bipush 6, (6, 0, 0, 0, [])), (79, 1, .idiv, x0), (80, 2, .iload 6, x0), (82, 2, .bipush 6, (6, 0, 0, 0, [])), (84, 1, .irem, x0), (85, 1, .iload_n 1, x0), (86, 1, .iload_n 2, x0), (87, 3, .invokevirtual 55, (0, 0, 0, 4, [(9, 70)])), (90, 3, .ifCond .eq 7, (0, 0, 97, 0, [])), (93, 2, .iload 6, x0), (95, 2, .istore 5, x0), (97, 3, .iinc 6 1, (1, 0, 6, 0, [])), (100, 3, .goto (-53), (0, 0, 47, 0, [])), (103, 1, .aload_n 0, x0), (104, 3, .getfield 15, (0, 0, 1, 9, [])), (107, 1, .lload_n 3, x0), (108, 3, .invokevirtual 59, (0, 0, 0, 1, [(8, 57)])), (111, 2, .iload 5, x0), (113, 1, .ireturn, x0)]
theorem de_69 : (op_69.all fun e => decide (decode prog_11_method_5_code e.1 = .ok (e.2.2.1, e.2.1))) = true := by decide +kernel
/-- CutsOrFast$Sets.mends(IIII)Z -/
def op_70 : List (Nat × OpE) := [(0, 1, .aload_n 0, x0), (1, 3, .getfield 9, (0, 0, 0, 9, [])), (4, 1, .iload_n 1, x0), (5, 1, .iload_n 2, x0), (6, 1, .iconst 1, (1, 0, 0, 0, [])), (7, 3, .invokevirtual 63, (0, 0, 0, 3, [(5, 22)])), (10, 1, .aload_n 0, x0), (11, 3, .getfield 15, (0, 0, 1, 9, [])), (14, 3, .invokevirtual 67, (0, 0, 0, 0, [(8, 55)])), (17, 1, .aload_n 0, x0), (18, 3, .getfield 15, (0, 0, 1, 9, [])), (21, 1, .iload_n 3, x0), (22, 2, .iload 4, x0), (24, 1, .iconst 1, (1, 0, 0, 0, [])), (25, 3, .invokevirtual 45, (0, 0, 0, 3, [(8, 58)])), (28, 3, .ifCond .ne 7, (0, 0, 35, 0, [])), (31, 1, .iconst 1, (1, 0, 0, 0, [])), (32, 3, .goto 4, (0, 0, 36, 0, [])), (35, 1, .iconst 0, x0), (36, 2, .istore 5, x0), (38, 1, .aload_n 0, x0), (39, 3, .getfield 9, (0, 0, 0, 9, [])), (42, 3, .invokevirtual 70, (0, 0, 0, 0, [(5, 23)])), (45, 2, .iload 5, x0), (47, 1, .ireturn, x0)]
theorem de_70 : (op_70.all fun e => decide (decode prog_11_method_6_code e.1 = .ok (e.2.2.1, e.2.1))) = true := by decide +kernel
/-- CutsOrFast$Stand.<init>(LCutsOrFast$Net;)V -/
def op_71 : List (Nat × OpE) := [(0, 1, .aload_n 0, x0), (1, 3, .invokespecial 3, (0, 0, 9999, 0, [])), (4, 1, .aload_n 0, x0), (5, 2, .bipush 9, (9, 0, 0, 0, [])), (7, 2, .newarray .int, (0, 0, 20, 0, [])), (9, 3, .putfield 9, (0, 0, 1, 10, [])), (12, 1, .aload_n 0, x0), (13, 1, .aload_n 1, x0), (14, 3, .putfield 15, (0, 0, 0, 10, [])), (17, 1, .return_, x0)]
theorem de_71 : (op_71.all fun e => decide (decode prog_12_method_1_code e.1 = .ok (e.2.2.1, e.2.1))) = true := by decide +kernel
/-- CutsOrFast$Stand.start(II)V -/
def op_72 : List (Nat × OpE) := [(0, 1, .aload_n 0, x0), (1, 1, .iload_n 1, x0), (2, 3, .putfield 19, (0, 0, 3, 10, [])), (5, 1, .aload_n 0, x0), (6, 1, .iload_n 2, x0), (7, 3, .putfield 23, (0, 0, 4, 10, [])), (10, 1, .aload_n 0, x0), (11, 1, .iconst 0, x0), (12, 3, .putfield 26, (0, 0, 5, 10, [])), (15, 1, .aload_n 0, x0), (16, 1, .iconst 0, x0), (17, 3, .putfield 29, (0, 0, 2, 10, [])), (20, 1, .return_, x0)]
theorem de_72 : (op_72.all fun e => decide (decode prog_12_method_2_code e.1 = .ok (e.2.2.1, e.2.1))) = true := by decide +kernel
/-- CutsOrFast$Stand.copyFrom(LCutsOrFast$Stand;)V -/
def op_73 : List (Nat × OpE) := [(0, 1, .aload_n 0, x0), (1, 1, .aload_n 1, x0), (2, 3, .getfield 19, (0, 0, 3, 10, [])), (5, 3, .putfield 19, (0, 0, 3, 10, [])), (8, 1, .aload_n 0, x0), (9, 1, .aload_n 1, x0), (10, 3, .getfield 23, (0, 0, 4, 10, [])), (13, 3, .putfield 23, (0, 0, 4, 10, [])), (16, 1, .aload_n 0, x0), (17, 1, .aload_n 1, x0), (18, 3, .getfield 26, (0, 0, 5, 10, [])), (21, 3, .putfield 26, (0, 0, 5, 10, [])), (24, 1, .aload_n 0, x0), (25, 1, .aload_n 1, x0), (26, 3, .getfield 29, (0, 0, 2, 10, [])), (29, 3, .putfield 29, (0, 0, 2, 10, [])), (32, 1, .iconst 0, x0), (33, 1, .istore_n 2, x0), (34, 1, .iload_n 2, x0), (35, 1, .aload_n 0, x0), (36, 3, .getfield 29, (0, 0, 2, 10, [])), (39, 3, .if_icmp .ge 25, (0, 0, 64, 0, [])), (42, 1, .aload_n 0, x0), (43, 3, .getfield 9, (0, 0, 1, 10, [])), (46, 1, .iload_n 2, x0), (47, 1, .aload_n 1, x0), (48, 3, .getfield 9, (0, 0, 1, 10, [])), (51, 1, .iload_n 2, x0), (52, 3, .invokestatic 32, (0, 0, 126, 2, [])), (55, 3, .invokestatic 36, (0, 0, 127, 3, [])), (58, 3, .iinc 2 1, (1, 0, 2, 0, [])), (61, 3, .goto (-27), (0, 0, 34, 0, [])), (64, 1, .return_, x0)]
theorem de_73 : (op_73.all fun e => decide (decode prog_12_method_3_code e.1 = .ok (e.2.2.1, e.2.1))) = true := by decide +kernel
/-- CutsOrFast$Stand.play(I)V -/
def op_74 : List (Nat × OpE) := [(0, 1, .aload_n 0, x0), (1, 3, .getfield 26, (0, 0, 5, 10, [])), (4, 3, .ifCond .ne 18, (0, 0, 22, 0, [])), (7, 1, .aload_n 0, x0), (8, 1, .dup, x0), (9, 3, .getfield 19, (0, 0, 3, 10, [])), (12, 1, .iconst 1, (1, 0, 0, 0, [])), (13, 1, .iload_n 1, x0), (14, 1, .ishl, x0), (15, 1, .ior, x0), (16, 3, .putfield 19, (0, 0, 3, 10, [])), (19, 3, .goto 15, (0, 0, 34, 0, [])), (22, 1, .aload_n 0, x0), (23, 1, .dup, x0), (24, 3, .getfield 23, (0, 0, 4, 10, [])), (27, 1, .iconst 1, (1, 0, 0, 0, [])), (28, 1, .iload_n 1, x0), (29, 1, .ishl, x0), (30, 1, .ior, x0), (31, 3, .putfield 23, (0, 0, 4, 10, [])), (34, 1, .aload_n 0, x0), (35, 3, .getfield 9, (0, 0, 1, 10, [])), (38, 1, .aload_n 0, x0), (39, 3, .getfield 29, (0, 0, 2, 10, [])), (42, 1, .iload_n 1, x0), (43, 3, .invokestatic 36, (0, 0, 127, 3, [])), (46, 1, .aload_n 0, x0), (47, 1, .dup, x0), (48, 3, .getfield 29, (0, 0, 2, 10, [])), (51, 1, .iconst 1, (1, 0, 0, 0, [])), (52, 1, .iadd, x0), (53, 3, .putfield 29, (0, 0, 2, 10, [])), (56, 1, .aload_n 0, x0), (57, 1, .iconst 1, (1, 0, 0, 0, [])), (58, 1, .aload_n 0, x0), (59, 3, .getfield 26, (0, 0, 5, 10, [])), (62, 1, .isub, x0), (63, 3, .putfield 26, (0, 0, 5, 10, [])), (66, 1, .return_, x0)]
theorem de_74 : (op_74.all fun e => decide (decode prog_12_method_4_code e.1 = .ok (e.2.2.1, e.2.1))) = true := by decide +kernel
/-- CutsOrFast$Stand.undo()V -/
def op_75 : List (Nat × OpE) := [(0, 1, .aload_n 0, x0), (1, 3, .getfield 29, (0, 0, 2, 10, [])), (4, 3, .ifCond .le 61, (0, 0, 65, 0, [])), (7, 1, .aload_n 0, x0), (8, 1, .dup, x0), (9, 3, .getfield 29, (0, 0, 2, 10, [])), (12, 1, .iconst 1, (1, 0, 0, 0, [])), (13, 1, .isub, x0), (14, 3, .putfield 29, (0, 0, 2, 10, [])), (17, 1, .iconst 1, (1, 0, 0, 0, [])), (18, 1, .aload_n 0, x0), (19, 3, .getfield 9, (0, 0, 1, 10, [])), (22, 1, .aload_n 0, x0), (23, 3, .getfield 29, (0, 0, 2, 10, [])), (26, 3, .invokestatic 32, (0, 0, 126, 2, [])), (29, 1, .ishl, x0), (30, 1, .istore_n 1, x0), (31, 1, .aload_n 0, x0), (32, 1, .dup, x0), (33, 3, .getfield 19, (0, 0, 3, 10, [])), (36, 1, .iload_n 1, x0), (37, 1, .iconst (-1), ((-1), 0, 0, 0, [])), (38, 1, .ixor, x0), (39, 1, .iand, x0), (40, 3, .putfield 19, (0, 0, 3, 10, [])), (43, 1, .aload_n 0, x0), (44, 1, .dup, x0), (45, 3, .getfield 23, (0, 0, 4, 10, [])), (48, 1, .iload_n 1, x0), (49, 1, .iconst (-1), ((-1), 0, 0, 0, [])), (50, 1, .ixor, x0), (51, 1, .iand, x0), (52, 3, .putfield 23, (0, 0, 4, 10, [])), (55, 1, .aload_n 0, x0), (56, 1, .iconst 1, (1, 0, 0, 0, [])), (57, 1, .aload_n 0, x0), (58, 3, .getfield 26, (0, 0, 5, 10, [])), (61, 1, .isub, x0), (62, 3, .putfield 26, (0, 0, 5, 10, [])), (65, 1, .return_, x0)]
theorem de_75 : (op_75.all fun e => decide (decode prog_12_method_5_code e.1 = .ok (e.2.2.1, e.2.1))) = true := by decide +kernel
/-- CutsOrFast$Stand.undoAll()V -/
def op_76 : List (Nat × OpE) := [(0, 1, .aload_n 0, x0), (1, 3, .getfield 29, (0, 0, 2, 10, [])), (4, 1, .istore_n 1, x0), (5, 1, .iload_n 1, x0), (6, 3, .ifCond .le 13, (0, 0, 19, 0, [])), (9, 1, .aload_n 0, x0), (10, 3, .invokevirtual 40, (0, 0, 0, 0, [(10, 75)])), (13, 3, .iinc 1 (-1), ((-1), 0, 1, 0, [])), (16, 3, .goto (-11), (0, 0, 5, 0, [])), (19, 1, .return_, x0)]
theorem de_76 : (op_76.all fun e => decide (decode prog_12_method_6_code e.1 = .ok (e.2.2.1, e.2.1))) = true := by decide +kernel
/-- CutsOrFast$Stand.outcome()I -/
def op_77 : List (Nat × OpE) := [(0, 1, .aload_n 0, x0), (1, 3, .getfield 15, (0, 0, 0, 10, [])), (4, 1, .aload_n 0, x0), (5, 3, .getfield 19, (0, 0, 3, 10, [])), (8, 1, .aload_n 0, x0), (9, 3, .getfield 23, (0, 0, 4, 10, [])), (12, 3, .invokevirtual 43, (0, 0, 0, 2, [(5, 37)])), (15, 1, .ireturn, x0)]
theorem de_77 : (op_77.all fun e => decide (decode prog_12_method_7_code e.1 = .ok (e.2.2.1, e.2.1))) = true := by decide +kernel
/-- CutsOrFast$Stand.stateOf(I)I -/
def op_78 : List (Nat × OpE) := [(0, 1, .iconst 1, (1, 0, 0, 0, [])), (1, 1, .iload_n 1, x0), (2, 1, .ishl, x0), (3, 1, .istore_n 2, x0), (4, 1, .aload_n 0, x0), (5, 3, .getfield 19, (0, 0, 3, 10, [])), (8, 1, .iload_n 2, x0), (9, 1, .iand, x0), (10, 3, .ifCond .eq 5, (0, 0, 15, 0, [])), (13, 1, .iconst 1, (1, 0, 0, 0, [])), (14, 1, .ireturn, x0), (15, 1, .aload_n 0, x0), (16, 3, .getfield 23, (0, 0, 4, 10, [])), (19, 1, .iload_n 2, x0), (20, 1, .iand, x0), (21, 3, .ifCond .eq 7, (0, 0, 28, 0, [])), (24, 1, .iconst 2, (2, 0, 0, 0, [])), (25, 3, .goto 4, (0, 0, 29, 0, [])), (28, 1, .iconst 0, x0), (29, 1, .ireturn, x0)]
theorem de_78 : (op_78.all fun e => decide (decode prog_12_method_8_code e.1 = .ok (e.2.2.1, e.2.1))) = true := by decide +kernel
/-- CutsOrFast$Stand.itsNet()LCutsOrFast$Net; -/
def op_79 : List (Nat × OpE) := [(0, 1, .aload_n 0, x0), (1, 3, .getfield 15, (0, 0, 0, 10, [])), (4, 1, .areturn, x0)]
theorem de_79 : (op_79.all fun e => decide (decode prog_12_method_9_code e.1 = .ok (e.2.2.1, e.2.1))) = true := by decide +kernel
/-- CutsOrFast$Stand.movesMade()I -/
def op_80 : List (Nat × OpE) := [(0, 1, .aload_n 0, x0), (1, 3, .getfield 29, (0, 0, 2, 10, [])), (4, 1, .ireturn, x0)]
theorem de_80 : (op_80.all fun e => decide (decode prog_12_method_10_code e.1 = .ok (e.2.2.1, e.2.1))) = true := by decide +kernel
/-- CutsOrFast$Stand.moveAt(I)I -/
def op_81 : List (Nat × OpE) := [(0, 1, .aload_n 0, x0), (1, 3, .getfield 9, (0, 0, 1, 10, [])), (4, 1, .iload_n 1, x0), (5, 3, .invokestatic 32, (0, 0, 126, 2, [])), (8, 1, .ireturn, x0)]
theorem de_81 : (op_81.all fun e => decide (decode prog_12_method_11_code e.1 = .ok (e.2.2.1, e.2.1))) = true := by decide +kernel
/-- CutsOrFast$Stand.side()I -/
def op_82 : List (Nat × OpE) := [(0, 1, .aload_n 0, x0), (1, 3, .getfield 26, (0, 0, 5, 10, [])), (4, 1, .ireturn, x0)]
theorem de_82 : (op_82.all fun e => decide (decode prog_12_method_12_code e.1 = .ok (e.2.2.1, e.2.1))) = true := by decide +kernel
/-- CutsOrFast$Stand.setSide(I)V -/
def op_83 : List (Nat × OpE) := [(0, 1, .aload_n 0, x0), (1, 1, .iload_n 1, x0), (2, 3, .putfield 26, (0, 0, 5, 10, [])), (5, 1, .return_, x0)]
theorem de_83 : (op_83.all fun e => decide (decode prog_12_method_13_code e.1 = .ok (e.2.2.1, e.2.1))) = true := by decide +kernel
/-- CutsOrFast$Stand.fastSet()I -/
def op_84 : List (Nat × OpE) := [(0, 1, .aload_n 0, x0), (1, 3, .getfield 19, (0, 0, 3, 10, [])), (4, 1, .ireturn, x0)]
theorem de_84 : (op_84.all fun e => decide (decode prog_12_method_14_code e.1 = .ok (e.2.2.1, e.2.1))) = true := by decide +kernel
/-- CutsOrFast$Stand.cutSet()I -/
def op_85 : List (Nat × OpE) := [(0, 1, .aload_n 0, x0), (1, 3, .getfield 23, (0, 0, 4, 10, [])), (4, 1, .ireturn, x0)]
theorem de_85 : (op_85.all fun e => decide (decode prog_12_method_15_code e.1 = .ok (e.2.2.1, e.2.1))) = true := by decide +kernel
/-- CutsOrFast$Stand.openSet()I -/
def op_86 : List (Nat × OpE) := [(0, 1, .aload_n 0, x0), (1, 3, .getfield 15, (0, 0, 0, 10, [])), (4, 3, .invokevirtual 49, (0, 0, 0, 0, [(5, 27)])), (7, 1, .aload_n 0, x0), (8, 3, .getfield 19, (0, 0, 3, 10, [])), (11, 1, .iconst (-1), ((-1), 0, 0, 0, [])), (12, 1, .ixor, x0), (13, 1, .iand, x0), (14, 1, .aload_n 0, x0), (15, 3, .getfield 23, (0, 0, 4, 10, [])), (18, 1, .iconst (-1), ((-1), 0, 0, 0, [])), (19, 1, .ixor, x0), (20, 1, .iand, x0), (21, 1, .ireturn, x0)]
theorem de_86 : (op_86.all fun e => decide (decode prog_12_method_16_code e.1 = .ok (e.2.2.1, e.2.1))) = true := by decide +kernel
/-- CutsOrFast$Stand.openLane(I)I -/
def op_87 : List (Nat × OpE) := [(0, 1, .iload_n 1, x0), (1, 1, .istore_n 2, x0), (2, 1, .iconst 0, x0), (3, 1, .istore_n 3, x0), (4, 1, .iload_n 3, x0), (5, 1, .aload_n 0, x0), (6, 3, .getfield 15, (0, 0, 0, 10, [])), (9, 3, .invokevirtual 53, (0, 0, 0, 0, [(5, 26)])), (12, 3, .if_icmp .ge 26, (0, 0, 38, 0, [])), (15, 1, .aload_n 0, x0), (16, 1, .iload_n 3, x0), (17, 3, .invokevirtual 56, (0, 0, 0, 1, [(10, 78)])), (20, 3, .ifCond .ne 12, (0, 0, 32, 0, [])), (23, 1, .iload_n 2, x0), (24, 3, .ifCond .ne 5, (0, 0, 29, 0, [])), (27, 1, .iload_n 3, x0), (28, 1, .ireturn, x0), (29, 3, .iinc 2 (-1), ((-1), 0, 2, 0, [])), (32, 3, .iinc 3 1, (1, 0, 3, 0, [])), (35, 3, .goto (-31), (0, 0, 4, 0, [])), (38, 1, .iconst (-1), ((-1), 0, 0, 0, [])), (39, 1, .ireturn, x0)]
theorem de_87 : (op_87.all fun e => decide (decode prog_12_method_17_code e.1 = .ok (e.2.2.1, e.2.1))) = true := by decide +kernel
/-- CutsOrFast.<init>()V -/
def op_88 : List (Nat × OpE) := [(0, 1, .aload_n 0, x0), (1, 3, .invokespecial 1, (0, 0, 9999, 0, [])), (4, 1, .aload_n 0, x0), (5, 3, .new 7, (0, 0, 6, 3, [])), (8, 1, .dup, x0), (9, 3, .invokespecial 9, (0, 0, 38, 0, [])), (12, 3, .putfield 10, (0, 0, 0, 11, [])), (15, 1, .aload_n 0, x0), (16, 3, .new 16, (0, 0, 5, 8, [])), (19, 1, .dup, x0), (20, 3, .invokespecial 18, (0, 0, 20, 0, [])), (23, 3, .putfield 19, (0, 0, 1, 11, [])), (26, 1, .aload_n 0, x0), (27, 3, .new 23, (0, 0, 10, 6, [])), (30, 1, .dup, x0), (31, 1, .aload_n 0, x0), (32, 3, .getfield 19, (0, 0, 1, 11, [])), (35, 3, .invokespecial 25, (0, 0, 71, 1, [])), (38, 3, .putfield 28, (0, 0, 2, 11, [])), (41, 1, .aload_n 0, x0), (42, 3, .new 23, (0, 0, 10, 6, [])), (45, 1, .dup, x0), (46, 1, .aload_n 0, x0), (47, 3, .getfield 19, (0, 0, 1, 11, [])), (50, 3, .invokespecial 25, (0, 0, 71, 1, [])), (53, 3, .putfield 32, (0, 0, 3, 11, [])), (56, 1, .aload_n 0, x0), (57, 3, .new 23, (0, 0, 10, 6, [])), (60, 1, .dup, x0), (61, 1, .aload_n 0, x0), (62, 3, .getfield 19, (0, 0, 1, 11, [])), (65, 3, .invokespecial 25, (0, 0, 71, 1, [])), (68, 3, .putfield 35, (0, 0, 4, 11, [])), (71, 1, .aload_n 0, x0), (72, 3, .new 38, (0, 0, 8, 5, [])), (75, 1, .dup, x0), (76, 1, .aload_n 0, x0), (77, 3, .getfield 19, (0, 0, 1, 11, [])), (80, 3, .invokespecial 40, (0, 0, 54, 1, [])), (83, 3, .putfield 41, (0, 0, 5, 11, [])), (86, 1, .aload_n 0, x0), (87, 3, .new 45, (0, 0, 9, 2, [])), (90, 1, .dup, x0), (91, 1, .aload_n 0, x0), (92, 3, .getfield 19, (0, 0, 1, 11, [])), (95, 1, .aload_n 0, x0), (96, 3, .getfield 41, (0, 0, 5, 11, [])), (99, 3, .invokespecial 47, (0, 0, 65, 2, [])), (102, 3, .putfield 50, (0, 0, 6, 11, [])), (105, 1, .aload_n 0, x0), (106, 3, .new 54, (0, 0, 3, 1, [])), (109, 1, .dup, x0), (110, 3, .invokespecial 56, (0, 0, 9, 0, [])), (113, 3, .putfield 57, (0, 0, 7, 11, [])), (116, 1, .aload_n 0, x0), (117, 1, .iconst 5, (5, 0, 0, 0, [])), (118, 3, .anewarray 61, (0, 0, 24, 0, [])), (121, 3, .putfield 63, (0, 0, 8, 11, [])), (124, 1, .return_, x0)]
theorem de_88 : (op_88.all fun e => decide (decode prog_1_method_1_code e.1 = .ok (e.2.2.1, e.2.1))) = true := by decide +kernel
/-- CutsOrFast.letters(J)I -/
def op_89 : List (Nat × OpE) := [(0, 1, .aload_n 0, x0), (1, 3, .getfield 10, (0, 0, 0, 11, [])), (4, 1, .lload_n 1, x0), (5, 3, .invokevirtual 67, (0, 0, 0, 1, [(6, 42)])), (8, 1, .ireturn, x0)]
theorem de_89 : (op_89.all fun e => decide (decode prog_1_method_2_code e.1 = .ok (e.2.2.1, e.2.1))) = true := by decide +kernel
/-- CutsOrFast.blank()I -/
def op_90 : List (Nat × OpE) := [(0, 1, .aload_n 0, x0), (1, 3, .getfield 10, (0, 0, 0, 11, [])), (4, 3, .invokevirtual 71, (0, 0, 0, 0, [(6, 39)])), (7, 1, .istore_n 1, x0), (8, 1, .aload_n 0, x0), (9, 3, .getfield 10, (0, 0, 0, 11, [])), (12, 3, .invokevirtual 75, (0, 0, 0, 0, [(6, 40)])), (15, 1, .iload_n 1, x0), (16, 1, .ireturn, x0)]
theorem de_90 : (op_90.all fun e => decide (decode prog_1_method_3_code e.1 = .ok (e.2.2.1, e.2.1))) = true := by decide +kernel
/-- CutsOrFast.fault()I -/
def op_91 : List (Nat × OpE) := [(0, 1, .aload_n 0, x0), (1, 3, .getfield 10, (0, 0, 0, 11, [])), (4, 3, .invokevirtual 78, (0, 0, 0, 0, [(6, 45)])), (7, 1, .ireturn, x0)]
theorem de_91 : (op_91.all fun e => decide (decode prog_1_method_4_code e.1 = .ok (e.2.2.1, e.2.1))) = true := by decide +kernel
/-- CutsOrFast.net()I -/
def op_92 : List (Nat × OpE) := [(0, 1, .aload_n 0, x0), (1, 3, .getfield 10, (0, 0, 0, 11, [])), (4, 3, .invokevirtual 81, (0, 0, 0, 0, [(6, 44)])), (7, 3, .ifCond .ne 6, (0, 0, 13, 0, [])), (10, 2, .bipush (-103), ((-103), 0, 0, 0, [])), (12, 1, .ireturn, x0), (13, 1, .aload_n 0, x0), (14, 3, .getfield 10, (0, 0, 0, 11, [])), (17, 1, .aload_n 0, x0), (18, 3, .getfield 19, (0, 0, 1, 11, [])), (21, 1, .aload_n 0, x0), (22, 3, .getfield 28, (0, 0, 2, 11, [])), (25, 3, .invokevirtual 85, (0, 0, 0, 2, [(6, 50)])), (28, 1, .aload_n 0, x0), (29, 3, .getfield 10, (0, 0, 0, 11, [])), (32, 3, .invokevirtual 75, (0, 0, 0, 0, [(6, 40)])), (35, 1, .aload_n 0, x0), (36, 3, .getfield 41, (0, 0, 5, 11, [])), (39, 3, .invokevirtual 89, (0, 0, 0, 0, [(8, 55)])), (42, 1, .aload_n 0, x0), (43, 1, .iconst 0, x0), (44, 3, .putfield 92, (0, 0, 12, 11, [])), (47, 1, .aload_n 0, x0), (48, 1, .dup, x0), (49, 3, .getfield 96, (0, 0, 10, 11, [])), (52, 1, .iconst 1, (1, 0, 0, 0, [])), (53, 1, .iadd, x0), (54, 3, .putfield 96, (0, 0, 10, 11, [])), (57, 1, .aload_n 0, x0), (58, 3, .getfield 19, (0, 0, 1, 11, [])), (61, 3, .invokevirtual 100, (0, 0, 0, 0, [(5, 26)])), (64, 1, .ireturn, x0)]
theorem de_92 : (op_92.all fun e => decide (decode prog_1_method_5_code e.1 = .ok (e.2.2.1, e.2.1))) = true := by decide +kernel
/-- CutsOrFast.lane(II)I -/
def op_93 : List (Nat × OpE) := [(0, 1, .aload_n 0, x0), (1, 1, .iload_n 1, x0), (2, 3, .invokevirtual 101, (0, 0, 0, 1, [(11, 116)])), (5, 3, .ifCond .ne 6, (0, 0, 11, 0, [])), (8, 2, .bipush (-101), ((-101), 0, 0, 0, [])), (10, 1, .ireturn, x0), (11, 1, .iload_n 2, x0), (12, 32, .tableswitch 68 0 3 #[32, 41, 50, 59], (0, 0, 80, 0, [(0, 44), (1, 53), (2, 62), (3, 71)])), (44, 1, .aload_n 0, x0), (45, 3, .getfield 19, (0, 0, 1, 11, [])), (48, 1, .iload_n 1, x0), (49, 3, .invokevirtual 105, (0, 0, 0, 1, [(5, 30)])), (52, 1, .ireturn, x0), (53, 1, .aload_n 0, x0), (54, 3, .getfield 19, (0, 0, 1, 11, [])), (57, 1, .iload_n 1, x0), (58, 3, .invokevirtual 109, (0, 0, 0, 1, [(5, 31)])), (61, 1, .ireturn, x0), (62, 1, .aload_n 0, x0), (63, 3, .getfield 28, (0, 0, 2, 11, [])), (66, 1, .iload_n 1, x0), (67, 3, .invokevirtual 112, (0, 0, 0, 1, [(10, 78)])), (70, 1, .ireturn, x0), (71, 1, .aload_n 0, x0), (72, 3, .getfield 19, (0, 0, 1, 11, [])), (75, 1, .iload_n 1, x0), (76, 3, .invokevirtual 115, (0, 0, 0, 1, [(5, 32)])), (79, 1, .ireturn, x0), (80, 2, .bipush (-102), ((-102), 0, 0, 0, [])), (82, 1, .ireturn, x0)]
theorem de_93 : (op_93.all fun e => decide (decode prog_1_method_6_code e.1 = .ok (e.2.2.1, e.2.1))) = true := by decide +kernel
/-- CutsOrFast.status()I -/
def op_94 : List (Nat × OpE) := [(0, 1, .aload_n 0, x0), (1, 3, .invokevirtual 118, (0, 0, 0, 0, [(11, 115)])), (4, 3, .ifCond .eq 13, (0, 0, 17, 0, [])), (7, 1, .aload_n 0, x0), (8, 3, .getfield 28, (0, 0, 2, 11, [])), (11, 3, .invokevirtual 121, (0, 0, 0, 0, [(10, 77)])), (14, 3, .goto 5, (0, 0, 19, 0, [])), (17, 2, .bipush (-103), ((-103), 0, 0, 0, [])), (19, 1, .ireturn, x0)]
theorem de_94 : (op_94.all fun e => decide (decode prog_1_method_7_code e.1 = .ok (e.2.2.1, e.2.1))) = true := by decide +kernel
/-- CutsOrFast.begin(I)I -/
def op_95 : List (Nat × OpE) := [(0, 1, .iload_n 1, x0), (1, 3, .invokestatic 124, (0, 0, 117, 1, [])), (4, 3, .ifCond .ne 6, (0, 0, 10, 0, [])), (7, 2, .bipush (-101), ((-101), 0, 0, 0, [])), (9, 1, .ireturn, x0), (10, 1, .aload_n 0, x0), (11, 3, .invokevirtual 118, (0, 0, 0, 0, [(11, 115)])), (14, 3, .ifCond .eq 13, (0, 0, 27, 0, [])), (17, 1, .aload_n 0, x0), (18, 3, .getfield 28, (0, 0, 2, 11, [])), (21, 3, .invokevirtual 127, (0, 0, 0, 0, [(10, 80)])), (24, 3, .ifCond .le 6, (0, 0, 30, 0, [])), (27, 2, .bipush (-103), ((-103), 0, 0, 0, [])), (29, 1, .ireturn, x0), (30, 1, .aload_n 0, x0), (31, 3, .getfield 28, (0, 0, 2, 11, [])), (34, 3, .invokevirtual 130, (0, 0, 0, 0, [(10, 82)])), (37, 1, .istore_n 2, x0), (38, 1, .aload_n 0, x0), (39, 3, .getfield 28, (0, 0, 2, 11, [])), (42, 1, .iload_n 1, x0), (43, 3, .invokevirtual 133, (0, 0, 0, 1, [(10, 83)])), (46, 1, .iload_n 2, x0), (47, 1, .ireturn, x0)]
theorem de_95 : (op_95.all fun e => decide (decode prog_1_method_8_code e.1 = .ok (e.2.2.1, e.2.1))) = true := by decide +kernel
/-- CutsOrFast.take(I)I -/
def op_96 : List (Nat × OpE) := [(0, 1, .aload_n 0, x0), (1, 1, .iload_n 1, x0), (2, 3, .invokevirtual 101, (0, 0, 0, 1, [(11, 116)])), (5, 3, .ifCond .ne 6, (0, 0, 11, 0, [])), (8, 2, .bipush (-101), ((-101), 0, 0, 0, [])), (10, 1, .ireturn, x0), (11, 1, .aload_n 0, x0), (12, 1, .iload_n 1, x0), (13, 3, .invokevirtual 137, (0, 0, 0, 1, [(11, 119)])), (16, 3, .ifCond .ne 6, (0, 0, 22, 0, [])), (19, 2, .bipush (-103), ((-103), 0, 0, 0, [])), (21, 1, .ireturn, x0), (22, 1, .aload_n 0, x0), (23, 3, .getfield 28, (0, 0, 2, 11, [])), (26, 1, .iload_n 1, x0), (27, 3, .invokevirtual 140, (0, 0, 0, 1, [(10, 74)])), (30, 1, .aload_n 0, x0), (31, 3, .getfield 28, (0, 0, 2, 11, [])), (34, 3, .invokevirtual 127, (0, 0, 0, 0, [(10, 80)])), (37, 1, .ireturn, x0)]
theorem de_96 : (op_96.all fun e => decide (decode prog_1_method_9_code e.1 = .ok (e.2.2.1, e.2.1))) = true := by decide +kernel
/-- CutsOrFast.back()I -/
def op_97 : List (Nat × OpE) := [(0, 1, .aload_n 0, x0), (1, 3, .invokevirtual 118, (0, 0, 0, 0, [(11, 115)])), (4, 3, .ifCond .eq 13, (0, 0, 17, 0, [])), (7, 1, .aload_n 0, x0), (8, 3, .getfield 28, (0, 0, 2, 11, [])), (11, 3, .invokevirtual 127, (0, 0, 0, 0, [(10, 80)])), (14, 3, .ifCond .ne 6, (0, 0, 20, 0, [])), (17, 2, .bipush (-103), ((-103), 0, 0, 0, [])), (19, 1, .ireturn, x0), (20, 1, .aload_n 0, x0), (21, 3, .getfield 28, (0, 0, 2, 11, [])), (24, 3, .invokevirtual 143, (0, 0, 0, 0, [(10, 75)])), (27, 1, .aload_n 0, x0), (28, 3, .getfield 28, (0, 0, 2, 11, [])), (31, 3, .invokevirtual 127, (0, 0, 0, 0, [(10, 80)])), (34, 1, .ireturn, x0)]
theorem de_97 : (op_97.all fun e => decide (decode prog_1_method_10_code e.1 = .ok (e.2.2.1, e.2.1))) = true := by decide +kernel
/-- CutsOrFast.whose(I)I -/
def op_98 : List (Nat × OpE) := [(0, 1, .iload_n 1, x0), (1, 3, .invokestatic 124, (0, 0, 117, 1, [])), (4, 3, .ifCond .ne 6, (0, 0, 10, 0, [])), (7, 2, .bipush (-101), ((-101), 0, 0, 0, [])), (9, 1, .ireturn, x0), (10, 1, .aload_n 0, x0), (11, 3, .invokevirtual 118, (0, 0, 0, 0, [(11, 115)])), (14, 3, .ifCond .eq 28, (0, 0, 42, 0, [])), (17, 1, .aload_n 0, x0), (18, 3, .getfield 41, (0, 0, 5, 11, [])), (21, 1, .aload_n 0, x0), (22, 3, .getfield 28, (0, 0, 2, 11, [])), (25, 3, .invokevirtual 146, (0, 0, 0, 0, [(10, 84)])), (28, 1, .aload_n 0, x0), (29, 3, .getfield 28, (0, 0, 2, 11, [])), (32, 3, .invokevirtual 149, (0, 0, 0, 0, [(10, 85)])), (35, 1, .iload_n 1, x0), (36, 3, .invokevirtual 152, (0, 0, 0, 3, [(8, 58)])), (39, 3, .goto 5, (0, 0, 44, 0, [])), (42, 2, .bipush (-103), ((-103), 0, 0, 0, [])), (44, 1, .ireturn, x0)]
theorem de_98 : (op_98.all fun e => decide (decode prog_1_method_11_code e.1 = .ok (e.2.2.1, e.2.1))) = true := by decide +kernel
/-- CutsOrFast.by(I)I -/
def op_99 : List (Nat × OpE) := [(0, 1, .iload_n 1, x0), (1, 3, .invokestatic 124, (0, 0, 117, 1, [])), (4, 3, .ifCond .ne 6, (0, 0, 10, 0, [])), (7, 2, .bipush (-101), ((-101), 0, 0, 0, [])), (9, 1, .ireturn, x0), (10, 1, .aload_n 0, x0), (11, 3, .invokevirtual 118, (0, 0, 0, 0, [(11, 115)])), (14, 3, .ifCond .eq 28, (0, 0, 42, 0, [])), (17, 1, .aload_n 0, x0), (18, 3, .getfield 41, (0, 0, 5, 11, [])), (21, 1, .aload_n 0, x0), (22, 3, .getfield 28, (0, 0, 2, 11, [])), (25, 3, .invokevirtual 146, (0, 0, 0, 0, [(10, 84)])), (28, 1, .aload_n 0, x0), (29, 3, .getfield 28, (0, 0, 2, 11, [])), (32, 3, .invokevirtual 149, (0, 0, 0, 0, [(10, 85)])), (35, 1, .iload_n 1, x0), (36, 3, .invokevirtual 156, (0, 0, 0, 3, [(8, 59)])), (39, 3, .goto 5, (0, 0, 44, 0, [])), (42, 2, .bipush (-103), ((-103), 0, 0, 0, [])), (44, 1, .ireturn, x0)]
theorem de_99 : (op_99.all fun e => decide (decode prog_1_method_12_code e.1 = .ok (e.2.2.1, e.2.1))) = true := by decide +kernel
/-- CutsOrFast.answer(I)I -/
def op_100 : List (Nat × OpE) := [(0, 1, .aload_n 0, x0), (1, 1, .iload_n 1, x0), (2, 3, .invokevirtual 101, (0, 0, 0, 1, [(11, 116)])), (5, 3, .ifCond .ne 6, (0, 0, 11, 0, [])), (8, 2, .bipush (-101), ((-101), 0, 0, 0, [])), (10, 1, .ireturn, x0), (11, 1, .aload_n 0, x0), (12, 1, .iload_n 1, x0), (13, 3, .invokevirtual 137, (0, 0, 0, 1, [(11, 119)])), (16, 3, .ifCond .ne 6, (0, 0, 22, 0, [])), (19, 2, .bipush (-103), ((-103), 0, 0, 0, [])), (21, 1, .ireturn, x0), (22, 1, .aload_n 0, x0), (23, 3, .getfield 41, (0, 0, 5, 11, [])), (26, 1, .aload_n 0, x0), (27, 3, .getfield 28, (0, 0, 2, 11, [])), (30, 3, .invokevirtual 146, (0, 0, 0, 0, [(10, 84)])), (33, 1, .aload_n 0, x0), (34, 3, .getfield 28, (0, 0, 2, 11, [])), (37, 3, .invokevirtual 149, (0, 0, 0, 0, [(10, 85)])), (40, 1, .iconst 1, (1, 0, 0, 0, [])), (41, 1, .iload_n 1, x0), (42, 1, .ishl, x0), (43, 1, .ior, x0), (44, 1, .iconst 0, x0), (45, 3, .invokevirtual 156, (0, 0, 0, 3, [(8, 59)])), (48, 1, .ireturn, x0)]
theorem de_100 : (op_100.all fun e => decide (decode prog_1_method_13_code e.1 = .ok (e.2.2.1, e.2.1))) = true := by decide +kernel
/-- CutsOrFast.lost()I -/
def op_101 : List (Nat × OpE) := [(0, 1, .aload_n 0, x0), (1, 3, .invokevirtual 118, (0, 0, 0, 0, [(11, 115)])), (4, 3, .ifCond .ne 6, (0, 0, 10, 0, [])), (7, 2, .bipush (-103), ((-103), 0, 0, 0, [])), (9, 1, .ireturn, x0), (10, 1, .aload_n 0, x0), (11, 3, .getfield 35, (0, 0, 4, 11, [])), (14, 1, .aload_n 0, x0), (15, 3, .getfield 28, (0, 0, 2, 11, [])), (18, 3, .invokevirtual 159, (0, 0, 0, 1, [(10, 73)])), (21, 1, .aload_n 0, x0), (22, 3, .getfield 35, (0, 0, 4, 11, [])), (25, 3, .invokevirtual 163, (0, 0, 0, 0, [(10, 76)])), (28, 1, .iconst 0, x0), (29, 1, .istore_n 1, x0), (30, 1, .iload_n 1, x0), (31, 1, .aload_n 0, x0), (32, 3, .getfield 28, (0, 0, 2, 11, [])), (35, 3, .invokevirtual 127, (0, 0, 0, 0, [(10, 80)])), (38, 3, .if_icmp .ge 102, (0, 0, 140, 0, [])), (41, 1, .aload_n 0, x0), (42, 3, .getfield 35, (0, 0, 4, 11, [])), (45, 3, .invokevirtual 130, (0, 0, 0, 0, [(10, 82)])), (48, 1, .istore_n 2, x0), (49, 1, .aload_n 0, x0), (50, 3, .getfield 41, (0, 0, 5, 11, [])), (53, 1, .aload_n 0, x0), (54, 3, .getfield 35, (0, 0, 4, 11, [])), (57, 3, .invokevirtual 146, (0, 0, 0, 0, [(10, 84)])), (60, 1, .aload_n 0, x0), (61, 3, .getfield 35, (0, 0, 4, 11, [])), (64, 3, .invokevirtual 149, (0, 0, 0, 0, [(10, 85)])), (67, 1, .iload_n 2, x0), (68, 3, .invokevirtual 152, (0, 0, 0, 3, [(8, 58)])), (71, 1, .iload_n 2, x0), (72, 3, .if_icmp .ne 7, (0, 0, 79, 0, [])), (75, 1, .iconst 1, (1, 0, 0, 0, [])), (76, 3, .goto 4, (0, 0, 80, 0, [])), (79, 1, .iconst 0, x0), (80, 1, .istore_n 3, x0), (81, 1, .aload_n 0, x0), (82, 3, .getfield 35, (0, 0, 4, 11, [])), (85, 1, .aload_n 0, x0), (86, 3, .getfield 28, (0, 0, 2, 11, [])), (89, 1, .iload_n 1, x0), (90, 3, .invokevirtual 166, (0, 0, 0, 1, [(10, 81)])), (93, 3, .invokevirtual 140, (0, 0, 0, 1, [(10, 74)])), (96, 1, .iload_n 3, x0), (97, 3, .ifCond .eq 37, (0, 0, 134, 0, [])), (100, 1, .aload_n 0, x0), (101, 3, .getfield 41, (0, 0, 5, 11, [])), (104, 1, .aload_n 0, x0), (105, 3, .getfield 35, (0, 0, 4, 11, [])), (108, 3, .invokevirtual 146, (0, 0, 0, 0, [(10, 84)])), (111, 1, .aload_n 0, x0), (112, 3, .getfield 35, (0, 0, 4, 11, [])), (115, 3, .invokevirtual 149, (0, 0, 0, 0, [(10, 85)])), (118, 1, .aload_n 0, x0), (119, 3, .getfield 35, (0, 0, 4, 11, [])), (122, 3, .invokevirtual 130, (0, 0, 0, 0, [(10, 82)])), (125, 3, .invokevirtual 152, (0, 0, 0, 3, [(8, 58)])), (128, 1, .iload_n 2, x0), (129, 3, .if_icmp .eq 5, (0, 0, 134, 0, [])), (132, 1, .iload_n 1, x0), (133, 1, .ireturn, x0), (134, 3, .iinc 1 1, (1, 0, 1, 0, [])), (137, 3, .goto (-107), (0, 0, 30, 0, [])), (140, 1, .iconst (-1), ((-1), 0, 0, 0, [])), (141, 1, .ireturn, x0)]
theorem de_101 : (op_101.all fun e => decide (decode prog_1_method_14_code e.1 = .ok (e.2.2.1, e.2.1))) = true := by decide +kernel
/-- CutsOrFast.ways()I -/
def op_102 : List (Nat × OpE) := [(0, 1, .aload_n 0, x0), (1, 3, .invokevirtual 118, (0, 0, 0, 0, [(11, 115)])), (4, 3, .ifCond .eq 27, (0, 0, 31, 0, [])), (7, 1, .aload_n 0, x0), (8, 3, .getfield 50, (0, 0, 6, 11, [])), (11, 1, .aload_n 0, x0), (12, 3, .getfield 28, (0, 0, 2, 11, [])), (15, 3, .invokevirtual 146, (0, 0, 0, 0, [(10, 84)])), (18, 1, .aload_n 0, x0), (19, 3, .getfield 28, (0, 0, 2, 11, [])), (22, 3, .invokevirtual 149, (0, 0, 0, 0, [(10, 85)])), (25, 3, .invokevirtual 169, (0, 0, 0, 2, [(9, 66)])), (28, 3, .goto 5, (0, 0, 33, 0, [])), (31, 2, .bipush (-103), ((-103), 0, 0, 0, [])), (33, 1, .ireturn, x0)]
theorem de_102 : (op_102.all fun e => decide (decode prog_1_method_15_code e.1 = .ok (e.2.2.1, e.2.1))) = true := by decide +kernel
/-- CutsOrFast.parting(I)I -/
def op_103 : List (Nat × OpE) := [(0, 1, .aload_n 0, x0), (1, 3, .invokevirtual 118, (0, 0, 0, 0, [(11, 115)])), (4, 3, .ifCond .ne 6, (0, 0, 10, 0, [])), (7, 2, .bipush (-103), ((-103), 0, 0, 0, [])), (9, 1, .ireturn, x0), (10, 1, .iload_n 1, x0), (11, 3, .ifCond .lt 8, (0, 0, 19, 0, [])), (14, 1, .iload_n 1, x0), (15, 1, .iconst 1, (1, 0, 0, 0, [])), (16, 3, .if_icmp .le 6, (0, 0, 22, 0, [])), (19, 2, .bipush (-102), ((-102), 0, 0, 0, [])), (21, 1, .ireturn, x0), (22, 1, .aload_n 0, x0), (23, 3, .getfield 50, (0, 0, 6, 11, [])), (26, 1, .aload_n 0, x0), (27, 3, .getfield 28, (0, 0, 2, 11, [])), (30, 3, .invokevirtual 146, (0, 0, 0, 0, [(10, 84)])), (33, 1, .aload_n 0, x0), (34, 3, .getfield 28, (0, 0, 2, 11, [])), (37, 3, .invokevirtual 149, (0, 0, 0, 0, [(10, 85)])), (40, 3, .invokevirtual 173, (0, 0, 0, 2, [(9, 67)])), (43, 1, .istore_n 2, x0), (44, 1, .iload_n 2, x0), (45, 1, .iconst (-1), ((-1), 0, 0, 0, [])), (46, 3, .if_icmp .eq 8, (0, 0, 54, 0, [])), (49, 1, .iload_n 1, x0), (50, 1, .iconst 1, (1, 0, 0, 0, [])), (51, 3, .if_icmp .ne 7, (0, 0, 58, 0, [])), (54, 1, .iload_n 2, x0), (55, 3, .goto 7, (0, 0, 62, 0, [])), (58, 1, .iload_n 2, x0), (59, 3, .invokestatic 176, (0, 0, 199, 1, [])), (62, 1, .ireturn, x0)]
theorem de_103 : (op_103.all fun e => decide (decode prog_1_method_16_code e.1 = .ok (e.2.2.1, e.2.1))) = true := by decide +kernel
/-- CutsOrFast.mend(I)I -/
def op_104 : List (Nat × OpE) := [(0, 1, .aload_n 0, x0), (1, 3, .invokevirtual 118, (0, 0, 0, 0, [(11, 115)])), (4, 3, .ifCond .eq 12, (0, 0, 16, 0, [])), (7, 1, .aload_n 0, x0), (8, 3, .getfield 181, (0, 0, 11, 11, [])), (11, 2, .bipush 20, (20, 0, 0, 0, [])), (13, 3, .if_icmp .lt 6, (0, 0, 19, 0, [])), (16, 2, .bipush (-103), ((-103), 0, 0, 0, [])), (18, 1, .ireturn, x0), (19, 1, .iload_n 1, x0), (20, 3, .ifCond .lt 8, (0, 0, 28, 0, [])), (23, 1, .iload_n 1, x0), (24, 1, .iconst 2, (2, 0, 0, 0, [])), (25, 3, .if_icmp .le 6, (0, 0, 31, 0, [])), (28, 2, .bipush (-102), ((-102), 0, 0, 0, [])), (30, 1, .ireturn, x0), (31, 1, .aload_n 0, x0), (32, 1, .dup, x0), (33, 3, .getfield 181, (0, 0, 11, 11, [])), (36, 1, .iconst 1, (1, 0, 0, 0, [])), (37, 1, .iadd, x0), (38, 3, .putfield 181, (0, 0, 11, 11, [])), (41, 1, .aload_n 0, x0), (42, 3, .getfield 50, (0, 0, 6, 11, [])), (45, 1, .aload_n 0, x0), (46, 3, .getfield 28, (0, 0, 2, 11, [])), (49, 3, .invokevirtual 146, (0, 0, 0, 0, [(10, 84)])), (52, 1, .aload_n 0, x0), (53, 3, .getfield 28, (0, 0, 2, 11, [])), (56, 3, .invokevirtual 149, (0, 0, 0, 0, [(10, 85)])), (59, 3, .invokevirtual 184, (0, 0, 0, 2, [(9, 69)])), (62, 1, .istore_n 2, x0), (63, 1, .iload_n 1, x0), (64, 3, .ifCond .ne 24, (0, 0, 88, 0, [])), (67, 1, .iload_n 2, x0), (68, 1, .iconst (-1), ((-1), 0, 0, 0, [])), (69, 3, .if_icmp .ne 7, (0, 0, 76, 0, [])), (72, 1, .iconst 0, x0), (73, 3, .goto 14, (0, 0, 87, 0, [])), (76, 1, .iload_n 2, x0), (77, 2, .bipush (-2), ((-2), 0, 0, 0, [])), (79, 3, .if_icmp .ne 7, (0, 0, 86, 0, [])), (82, 1, .iconst 2, (2, 0, 0, 0, [])), (83, 3, .goto 4, (0, 0, 87, 0, [])), (86, 1, .iconst 1, (1, 0, 0, 0, [])), (87, 1, .ireturn, x0), (88, 1, .iload_n 2, x0), (89, 3, .ifCond .ge 5, (0, 0, 94, 0, [])), (92, 1, .iconst (-1), ((-1), 0, 0, 0, [])), (93, 1, .ireturn, x0), (94, 1, .iload_n 1, x0), (95, 1, .iconst 1, (1, 0, 0, 0, [])), (96, 3, .if_icmp .ne 10, (0, 0, 106, 0, [])), (99, 1, .iload_n 2, x0), (100, 2, .bipush 6, (6, 0, 0, 0, [])), (102, 1, .idiv, x0), (103, 3, .goto 7, (0, 0, 110, 0, [])), (106, 1, .iload_n 2, x0), (107, 2, .bipush 6, (6, 0, 0, 0, [])), (109, 1, .irem, x0), (110, 1, .ireturn, x0)]
theorem de_104 : (op_104.all fun e => decide (decode prog_1_method_17_code e.1 = .ok (e.2.2.1, e.2.1))) = true := by decide +kernel
/-- CutsOrFast.bought(I)I -/
def op_105 : List (Nat × OpE) := [(0, 1, .aload_n 0, x0), (1, 3, .invokevirtual 118, (0, 0, 0, 0, [(11, 115)])), (4, 3, .ifCond .ne 6, (0, 0, 10, 0, [])), (7, 2, .bipush (-103), ((-103), 0, 0, 0, [])), (9, 1, .ireturn, x0), (10, 1, .iload_n 1, x0), (11, 3, .ifCond .lt 8, (0, 0, 19, 0, [])), (14, 1, .iload_n 1, x0), (15, 1, .iconst 1, (1, 0, 0, 0, [])), (16, 3, .if_icmp .le 6, (0, 0, 22, 0, [])), (19, 2, .bipush (-102), ((-102), 0, 0, 0, [])), (21, 1, .ireturn, x0), (22, 1, .aload_n 0, x0), (23, 3, .getfield 50, (0, 0, 6, 11, [])), (26, 1, .aload_n 0, x0), (27, 3, .getfield 28, (0, 0, 2, 11, [])), (30, 3, .invokevirtual 146, (0, 0, 0, 0, [(10, 84)])), (33, 1, .aload_n 0, x0), (34, 3, .getfield 28, (0, 0, 2, 11, [])), (37, 3, .invokevirtual 149, (0, 0, 0, 0, [(10, 85)])), (40, 3, .invokevirtual 187, (0, 0, 0, 2, [(9, 68)])), (43, 1, .istore_n 2, x0), (44, 1, .iload_n 2, x0), (45, 1, .iconst (-1), ((-1), 0, 0, 0, [])), (46, 3, .if_icmp .eq 8, (0, 0, 54, 0, [])), (49, 1, .iload_n 1, x0), (50, 1, .iconst 1, (1, 0, 0, 0, [])), (51, 3, .if_icmp .ne 7, (0, 0, 58, 0, [])), (54, 1, .iload_n 2, x0), (55, 3, .goto 11, (0, 0, 66, 0, [])), (58, 1, .aload_n 0, x0), (59, 3, .getfield 19, (0, 0, 1, 11, [])), (62, 1, .iload_n 2, x0), (63, 3, .invokevirtual 190, (0, 0, 0, 1, [(5, 33)])), (66, 1, .ireturn, x0)]
theorem de_105 : (op_105.all fun e => decide (decode prog_1_method_18_code e.1 = .ok (e.2.2.1, e.2.1))) = true := by decide +kernel
/-- CutsOrFast.likely(II)I -/
def op_106 : List (Nat × OpE) := [(0, 1, .aload_n 0, x0), (1, 3, .invokevirtual 118, (0, 0, 0, 0, [(11, 115)])), (4, 3, .ifCond .ne 6, (0, 0, 10, 0, [])), (7, 2, .bipush (-103), ((-103), 0, 0, 0, [])), (9, 1, .ireturn, x0), (10, 1, .iload_n 1, x0), (11, 3, .ifCond .lt 17, (0, 0, 28, 0, [])), (14, 1, .iload_n 1, x0), (15, 1, .iconst 3, (3, 0, 0, 0, [])), (16, 3, .if_icmp .ge 12, (0, 0, 28, 0, [])), (19, 1, .iload_n 2, x0), (20, 3, .ifCond .lt 8, (0, 0, 28, 0, [])), (23, 1, .iload_n 2, x0), (24, 1, .iconst 1, (1, 0, 0, 0, [])), (25, 3, .if_icmp .le 6, (0, 0, 31, 0, [])), (28, 2, .bipush (-102), ((-102), 0, 0, 0, [])), (30, 1, .ireturn, x0), (31, 1, .aload_n 0, x0), (32, 3, .getfield 41, (0, 0, 5, 11, [])), (35, 1, .iload_n 1, x0), (36, 1, .aload_n 0, x0), (37, 3, .getfield 28, (0, 0, 2, 11, [])), (40, 3, .invokevirtual 146, (0, 0, 0, 0, [(10, 84)])), (43, 1, .aload_n 0, x0), (44, 3, .getfield 28, (0, 0, 2, 11, [])), (47, 3, .invokevirtual 149, (0, 0, 0, 0, [(10, 85)])), (50, 1, .aload_n 0, x0), (51, 3, .getfield 28, (0, 0, 2, 11, [])), (54, 3, .invokevirtual 130, (0, 0, 0, 0, [(10, 82)])), (57, 3, .invokevirtual 193, (0, 0, 0, 4, [(8, 60)])), (60, 1, .istore_n 3, x0), (61, 1, .aload_n 0, x0), (62, 3, .getfield 28, (0, 0, 2, 11, [])), (65, 3, .invokevirtual 197, (0, 0, 0, 0, [(10, 86)])), (68, 3, .invokestatic 176, (0, 0, 199, 1, [])), (71, 3, .invokestatic 200, (0, 0, 124, 1, [])), (74, 2, .istore 4, x0), (76, 1, .iload_n 3, x0), (77, 2, .iload 4, x0), (79, 3, .invokestatic 203, (0, 0, 125, 2, [])), (82, 2, .istore 5, x0), (84, 1, .iload_n 2, x0), (85, 3, .ifCond .ne 7, (0, 0, 92, 0, [])), (88, 1, .iload_n 3, x0), (89, 3, .goto 5, (0, 0, 94, 0, [])), (92, 2, .iload 4, x0), (94, 2, .iload 5, x0), (96, 3, .ifCond .le 8, (0, 0, 104, 0, [])), (99, 2, .iload 5, x0), (101, 3, .goto 4, (0, 0, 105, 0, [])), (104, 1, .iconst 1, (1, 0, 0, 0, [])), (105, 1, .idiv, x0), (106, 1, .ireturn, x0)]
theorem de_106 : (op_106.all fun e => decide (decode prog_1_method_19_code e.1 = .ok (e.2.2.1, e.2.1))) = true := by decide +kernel
/-- CutsOrFast.player(I)I -/
def op_107 : List (Nat × OpE) := [(0, 1, .iload_n 1, x0), (1, 3, .invokestatic 206, (0, 0, 118, 1, [])), (4, 3, .ifCond .ne 6, (0, 0, 10, 0, [])), (7, 2, .bipush (-102), ((-102), 0, 0, 0, [])), (9, 1, .ireturn, x0), (10, 1, .aload_n 0, x0), (11, 3, .getfield 209, (0, 0, 9, 11, [])), (14, 3, .ifCond .lt 15, (0, 0, 29, 0, [])), (17, 1, .aload_n 0, x0), (18, 3, .getfield 209, (0, 0, 9, 11, [])), (21, 1, .aload_n 0, x0), (22, 3, .getfield 63, (0, 0, 8, 11, [])), (25, 1, .arraylength, x0), (26, 3, .if_icmp .lt 6, (0, 0, 32, 0, [])), (29, 2, .bipush (-104), ((-104), 0, 0, 0, [])), (31, 1, .ireturn, x0), (32, 1, .aload_n 0, x0), (33, 3, .getfield 63, (0, 0, 8, 11, [])), (36, 1, .aload_n 0, x0), (37, 3, .getfield 209, (0, 0, 9, 11, [])), (40, 1, .iload_n 1, x0), (41, 3, .invokestatic 212, (0, 0, 121, 1, [])), (44, 1, .aastore, x0), (45, 1, .aload_n 0, x0), (46, 1, .dup, x0), (47, 3, .getfield 209, (0, 0, 9, 11, [])), (50, 1, .iconst 1, (1, 0, 0, 0, [])), (51, 1, .iadd, x0), (52, 3, .putfield 209, (0, 0, 9, 11, [])), (55, 1, .aload_n 0, x0), (56, 3, .getfield 209, (0, 0, 9, 11, [])), (59, 1, .iconst 1, (1, 0, 0, 0, [])), (60, 1, .isub, x0), (61, 1, .ireturn, x0)]
theorem de_107 : (op_107.all fun e => decide (decode prog_1_method_20_code e.1 = .ok (e.2.2.1, e.2.1))) = true := by decide +kernel
/-- CutsOrFast.as(II)I -/
def op_108 : List (Nat × OpE) := [(0, 1, .aload_n 0, x0), (1, 1, .iload_n 1, x0), (2, 3, .invokevirtual 216, (0, 0, 0, 1, [(11, 120)])), (5, 1, .astore_n 3, x0), (6, 1, .aload_n 3, x0), (7, 3, .ifnonnull 6, (0, 0, 13, 0, [])), (10, 2, .bipush (-101), ((-101), 0, 0, 0, [])), (12, 1, .ireturn, x0), (13, 1, .iload_n 2, x0), (14, 3, .invokestatic 206, (0, 0, 118, 1, [])), (17, 3, .ifCond .ne 6, (0, 0, 23, 0, [])), (20, 2, .bipush (-102), ((-102), 0, 0, 0, [])), (22, 1, .ireturn, x0), (23, 1, .aload_n 3, x0), (24, 1, .iload_n 2, x0), (25, 3, .invokestatic 219, (0, 0, 122, 2, [])), (28, 3, .ifCond .eq 7, (0, 0, 35, 0, [])), (31, 1, .iload_n 1, x0), (32, 3, .goto 4, (0, 0, 36, 0, [])), (35, 1, .iconst (-1), ((-1), 0, 0, 0, [])), (36, 1, .ireturn, x0)]
theorem de_108 : (op_108.all fun e => decide (decode prog_1_method_21_code e.1 = .ok (e.2.2.1, e.2.1))) = true := by decide +kernel
/-- CutsOrFast.move(II)I -/
def op_109 : List (Nat × OpE) := [(0, 1, .aload_n 0, x0), (1, 1, .iload_n 1, x0), (2, 3, .invokevirtual 216, (0, 0, 0, 1, [(11, 120)])), (5, 1, .astore_n 3, x0), (6, 1, .aload_n 3, x0), (7, 3, .ifnonnull 6, (0, 0, 13, 0, [])), (10, 2, .bipush (-101), ((-101), 0, 0, 0, [])), (12, 1, .ireturn, x0), (13, 1, .aload_n 0, x0), (14, 3, .invokevirtual 118, (0, 0, 0, 0, [(11, 115)])), (17, 3, .ifCond .eq 13, (0, 0, 30, 0, [])), (20, 1, .aload_n 0, x0), (21, 3, .getfield 28, (0, 0, 2, 11, [])), (24, 3, .invokevirtual 121, (0, 0, 0, 0, [(10, 77)])), (27, 3, .ifCond .eq 6, (0, 0, 33, 0, [])), (30, 2, .bipush (-103), ((-103), 0, 0, 0, [])), (32, 1, .ireturn, x0), (33, 1, .iload_n 2, x0), (34, 3, .ifCond .ge 6, (0, 0, 40, 0, [])), (37, 2, .bipush (-102), ((-102), 0, 0, 0, [])), (39, 1, .ireturn, x0), (40, 1, .aload_n 0, x0), (41, 3, .getfield 57, (0, 0, 7, 11, [])), (44, 1, .iload_n 2, x0), (45, 3, .invokevirtual 223, (0, 0, 0, 1, [(3, 10)])), (48, 1, .aload_n 3, x0), (49, 1, .aload_n 0, x0), (50, 3, .getfield 28, (0, 0, 2, 11, [])), (53, 1, .aload_n 0, x0), (54, 3, .getfield 41, (0, 0, 5, 11, [])), (57, 1, .aload_n 0, x0), (58, 3, .getfield 57, (0, 0, 7, 11, [])), (61, 3, .invokevirtual 226, (0, 0, 0, 3, [(7, 53), (0, 2), (1, 5), (2, 15), (4, 15)])), (64, 1, .ireturn, x0)]
theorem de_109 : (op_109.all fun e => decide (decode prog_1_method_22_code e.1 = .ok (e.2.2.1, e.2.1))) = true := by decide +kernel
/-- CutsOrFast.game(IIII)I -/
def op_110 : List (Nat × OpE) := [(0, 1, .aload_n 0, x0), (1, 1, .iload_n 1, x0), (2, 3, .invokevirtual 216, (0, 0, 0, 1, [(11, 120)])), (5, 2, .astore 5, x0), (7, 1, .aload_n 0, x0), (8, 1, .iload_n 2, x0), (9, 3, .invokevirtual 216, (0, 0, 0, 1, [(11, 120)])), (12, 2, .astore 6, x0), (14, 2, .aload 5, x0), (16, 3, .ifnull 8, (0, 0, 24, 0, [])), (19, 2, .aload 6, x0), (21, 3, .ifnonnull 6, (0, 0, 27, 0, [])), (24, 2, .bipush (-101), ((-101), 0, 0, 0, [])), (26, 1, .ireturn, x0), (27, 1, .aload_n 0, x0), (28, 3, .invokevirtual 118, (0, 0, 0, 0, [(11, 115)])), (31, 3, .ifCond .ne 6, (0, 0, 37, 0, [])), (34, 2, .bipush (-103), ((-103), 0, 0, 0, [])), (36, 1, .ireturn, x0), (37, 1, .iload_n 3, x0), (38, 3, .ifCond .lt 14, (0, 0, 52, 0, [])), (41, 2, .iload 4, x0), (43, 3, .ifCond .lt 9, (0, 0, 52, 0, [])), (46, 2, .iload 4, x0), (48, 1, .iconst 3, (3, 0, 0, 0, [])), (49, 3, .if_icmp .le 6, (0, 0, 55, 0, [])), (52, 2, .bipush (-102), ((-102), 0, 0, 0, [])), (54, 1, .ireturn, x0), (55, 1, .aload_n 0, x0), (56, 3, .getfield 57, (0, 0, 7, 11, [])), (59, 1, .iload_n 3, x0), (60, 3, .invokevirtual 223, (0, 0, 0, 1, [(3, 10)])), (63, 1, .aload_n 0, x0), (64, 2, .aload 5, x0), (66, 2, .aload 6, x0), (68, 3, .invokevirtual 230, (0, 0, 0, 2, [(11, 123)])), (71, 2, .istore 7, x0), (73, 2, .iload 4, x0), (75, 25, .tableswitch 53 0 2 #[25, 42, 45], (0, 0, 128, 0, [(0, 100), (1, 117), (2, 120)])), (100, 1, .aload_n 0, x0), (101, 3, .getfield 35, (0, 0, 4, 11, [])), (104, 3, .invokevirtual 121, (0, 0, 0, 0, [(10, 77)])), (107, 1, .iconst 1, (1, 0, 0, 0, [])), (108, 3, .if_icmp .ne 7, (0, 0, 115, 0, [])), (111, 1, .iconst 0, x0), (112, 3, .goto 4, (0, 0, 116, 0, [])), (115, 1, .iconst 1, (1, 0, 0, 0, [])), (116, 1, .ireturn, x0), (117, 2, .iload 7, x0), (119, 1, .ireturn, x0), (120, 1, .aload_n 0, x0), (121, 3, .getfield 35, (0, 0, 4, 11, [])), (124, 3, .invokevirtual 146, (0, 0, 0, 0, [(10, 84)])), (127, 1, .ireturn, x0), (128, 1, .aload_n 0, x0), (129, 3, .getfield 57, (0, 0, 7, 11, [])), (132, 3, .invokevirtual 234, (0, 0, 0, 0, [(3, 12)])), (135, 1, .ireturn, x0)]
theorem de_110 : (op_110.all fun e => decide (decode prog_1_method_23_code e.1 = .ok (e.2.2.1, e.2.1))) = true := by decide +kernel
/-- CutsOrFast.image()I -/
def op_111 : List (Nat × OpE) := [(0, 1, .aload_n 0, x0), (1, 3, .invokevirtual 118, (0, 0, 0, 0, [(11, 115)])), (4, 3, .ifCond .ne 6, (0, 0, 10, 0, [])), (7, 2, .bipush (-103), ((-103), 0, 0, 0, [])), (9, 1, .ireturn, x0), (10, 1, .aload_n 0, x0), (11, 3, .getfield 32, (0, 0, 3, 11, [])), (14, 1, .aload_n 0, x0), (15, 3, .getfield 28, (0, 0, 2, 11, [])), (18, 3, .invokevirtual 159, (0, 0, 0, 1, [(10, 73)])), (21, 1, .aload_n 0, x0), (22, 1, .iconst 1, (1, 0, 0, 0, [])), (23, 3, .putfield 92, (0, 0, 12, 11, [])), (26, 1, .aload_n 0, x0), (27, 3, .getfield 28, (0, 0, 2, 11, [])), (30, 3, .invokevirtual 127, (0, 0, 0, 0, [(10, 80)])), (33, 1, .ireturn, x0)]
theorem de_111 : (op_111.all fun e => decide (decode prog_1_method_24_code e.1 = .ok (e.2.2.1, e.2.1))) = true := by decide +kernel
/-- CutsOrFast.restore()I -/
def op_112 : List (Nat × OpE) := [(0, 1, .aload_n 0, x0), (1, 3, .getfield 92, (0, 0, 12, 11, [])), (4, 3, .ifCond .ne 6, (0, 0, 10, 0, [])), (7, 2, .bipush (-103), ((-103), 0, 0, 0, [])), (9, 1, .ireturn, x0), (10, 1, .aload_n 0, x0), (11, 3, .getfield 28, (0, 0, 2, 11, [])), (14, 1, .aload_n 0, x0), (15, 3, .getfield 32, (0, 0, 3, 11, [])), (18, 3, .invokevirtual 159, (0, 0, 0, 1, [(10, 73)])), (21, 1, .aload_n 0, x0), (22, 3, .getfield 28, (0, 0, 2, 11, [])), (25, 3, .invokevirtual 127, (0, 0, 0, 0, [(10, 80)])), (28, 1, .ireturn, x0)]
theorem de_112 : (op_112.all fun e => decide (decode prog_1_method_25_code e.1 = .ok (e.2.2.1, e.2.1))) = true := by decide +kernel
/-- CutsOrFast.count(I)I -/
def op_113 : List (Nat × OpE) := [(0, 1, .iload_n 1, x0), (1, 55, .tableswitch 135 0 9 #[55, 63, 74, 85, 96, 104, 112, 117, 125, 130], (0, 0, 136, 0, [(0, 56), (1, 64), (2, 75), (3, 86), (4, 97), (5, 105), (6, 113), (7, 118), (8, 126), (9, 131)])), (56, 1, .aload_n 0, x0), (57, 3, .getfield 19, (0, 0, 1, 11, [])), (60, 3, .invokevirtual 100, (0, 0, 0, 0, [(5, 26)])), (63, 1, .ireturn, x0), (64, 1, .aload_n 0, x0), (65, 3, .getfield 28, (0, 0, 2, 11, [])), (68, 3, .invokevirtual 197, (0, 0, 0, 0, [(10, 86)])), (71, 3, .invokestatic 176, (0, 0, 199, 1, [])), (74, 1, .ireturn, x0), (75, 1, .aload_n 0, x0), (76, 3, .getfield 28, (0, 0, 2, 11, [])), (79, 3, .invokevirtual 146, (0, 0, 0, 0, [(10, 84)])), (82, 3, .invokestatic 176, (0, 0, 199, 1, [])), (85, 1, .ireturn, x0), (86, 1, .aload_n 0, x0), (87, 3, .getfield 28, (0, 0, 2, 11, [])), (90, 3, .invokevirtual 149, (0, 0, 0, 0, [(10, 85)])), (93, 3, .invokestatic 176, (0, 0, 199, 1, [])), (96, 1, .ireturn, x0), (97, 1, .aload_n 0, x0), (98, 3, .getfield 28, (0, 0, 2, 11, [])), (101, 3, .invokevirtual 127, (0, 0, 0, 0, [(10, 80)])), (104, 1, .ireturn, x0), (105, 1, .aload_n 0, x0), (106, 3, .getfield 28, (0, 0, 2, 11, [])), (109, 3, .invokevirtual 130, (0, 0, 0, 0, [(10, 82)])), (112, 1, .ireturn, x0), (113, 1, .aload_n 0, x0), (114, 3, .getfield 209, (0, 0, 9, 11, [])), (117, 1, .ireturn, x0), (118, 1, .aload_n 0, x0), (119, 3, .getfield 10, (0, 0, 0, 11, [])), (122, 3, .invokevirtual 71, (0, 0, 0, 0, [(6, 39)])), (125, 1, .ireturn, x0), (126, 1, .aload_n 0, x0), (127, 3, .getfield 96, (0, 0, 10, 11, [])), (130, 1, .ireturn, x0), (131, 1, .aload_n 0, x0), (132, 3, .getfield 181, (0, 0, 11, 11, [])), (135, 1, .ireturn, x0), (136, 2, .bipush (-102), ((-102), 0, 0, 0, [])), (138, 1, .ireturn, x0)]
theorem de_113 : (op_113.all fun e => decide (decode prog_1_method_26_code e.1 = .ok (e.2.2.1, e.2.1))) = true := by decide +kernel
/-- CutsOrFast.digest()J -/
def op_114 : List (Nat × OpE) := [(0, 3, .ldc2_w 237, (0, 587, 0, 0, [])), (3, 1, .lstore_n 1, x0), (4, 1, .iconst 0, x0), (5, 1, .istore_n 3, x0), (6, 1, .iload_n 3, x0), (7, 1, .aload_n 0, x0), (8, 3, .getfield 19, (0, 0, 1, 11, [])), (11, 3, .invokevirtual 100, (0, 0, 0, 0, [(5, 26)])), (14, 3, .if_icmp .ge 39, (0, 0, 53, 0, [])), (17, 1, .iconst 0, x0), (18, 2, .istore 4, x0), (20, 2, .iload 4, x0), (22, 1, .iconst 3, (3, 0, 0, 0, [])), (23, 3, .if_icmp .gt 24, (0, 0, 47, 0, [])), (26, 3, .ldc2_w 239, (0, 31, 0, 0, [])), (29, 1, .lload_n 1, x0), (30, 1, .lmul, x0), (31, 1, .aload_n 0, x0), (32, 1, .iload_n 3, x0), (33, 2, .iload 4, x0), (35, 3, .invokevirtual 241, (0, 0, 0, 2, [(11, 93)])), (38, 1, .i2l, x0), (39, 1, .ladd, x0), (40, 1, .lstore_n 1, x0), (41, 3, .iinc 4 1, (1, 0, 4, 0, [])), (44, 3, .goto (-24), (0, 0, 20, 0, [])), (47, 3, .iinc 3 1, (1, 0, 3, 0, [])), (50, 3, .goto (-44), (0, 0, 6, 0, [])), (53, 1, .aload_n 0, x0), (54, 3, .invokevirtual 118, (0, 0, 0, 0, [(11, 115)])), (57, 3, .ifCond .eq 184, (0, 0, 241, 0, [])), (60, 3, .ldc2_w 239, (0, 31, 0, 0, [])), (63, 1, .lload_n 1, x0), (64, 1, .lmul, x0), (65, 1, .aload_n 0, x0), (66, 3, .invokevirtual 244, (0, 0, 0, 0, [(11, 94)])), (69, 1, .i2l, x0), (70, 1, .ladd, x0), (71, 1, .lstore_n 1, x0), (72, 3, .ldc2_w 239, (0, 31, 0, 0, [])), (75, 1, .lload_n 1, x0), (76, 1, .lmul, x0), (77, 1, .aload_n 0, x0), (78, 1, .iconst 0, x0), (79, 3, .invokevirtual 247, (0, 0, 0, 1, [(11, 98)])), (82, 1, .i2l, x0), (83, 1, .ladd, x0), (84, 1, .lstore_n 1, x0), (85, 3, .ldc2_w 239, (0, 31, 0, 0, [])), (88, 1, .lload_n 1, x0), (89, 1, .lmul, x0), (90, 1, .aload_n 0, x0), (91, 1, .iconst 1, (1, 0, 0, 0, [])), (92, 3, .invokevirtual 247, (0, 0, 0, 1, [(11, 98)])), (95, 1, .i2l, x0), (96, 1, .ladd, x0), (97, 1, .lstore_n 1, x0), (98, 3, .ldc2_w 239, (0, 31, 0, 0, [])), (101, 1, .lload_n 1, x0), (102, 1, .lmul, x0), (103, 1, .aload_n 0, x0), (104, 1, .iconst 0, x0), (105, 3, .invokevirtual 250, (0, 0, 0, 1, [(11, 99)])), (108, 1, .i2l, x0), (109, 1, .ladd, x0), (110, 1, .lstore_n 1, x0), (111, 3, .ldc2_w 239, (0, 31, 0, 0, [])), (114, 1, .lload_n 1, x0), (115, 1, .lmul, x0), (116, 1, .aload_n 0, x0), (117, 1, .iconst 1, (1, 0, 0, 0, [])), (118, 3, .invokevirtual 250, (0, 0, 0, 1, [(11, 99)])), (121, 1, .i2l, x0), (122, 1, .ladd, x0), (123, 1, .lstore_n 1, x0), (124, 3, .ldc2_w 239, (0, 31, 0, 0, [])), (127, 1, .lload_n 1, x0), (128, 1, .lmul, x0), (129, 1, .aload_n 0, x0), (130, 3, .invokevirtual 253, (0, 0, 0, 0, [(11, 101)])), (133, 1, .i2l, x0), (134, 1, .ladd, x0), (135, 1, .lstore_n 1, x0), (136, 3, .ldc2_w 239, (0, 31, 0, 0, [])), (139, 1, .lload_n 1, x0), (140, 1, .lmul, x0), (141, 1, .aload_n 0, x0), (142, 3, .invokevirtual 256, (0, 0, 0, 0, [(11, 102)])), (145, 1, .i2l, x0), (146, 1, .ladd, x0), (147, 1, .lstore_n 1, x0), (148, 3, .ldc2_w 239, (0, 31, 0, 0, [])), (151, 1, .lload_n 1, x0), (152, 1, .lmul, x0), (153, 1, .aload_n 0, x0), (154, 1, .iconst 0, x0), (155, 3, .invokevirtual 259, (0, 0, 0, 1, [(11, 103)])), (158, 1, .i2l, x0), (159, 1, .ladd, x0), (160, 1, .lstore_n 1, x0), (161, 3, .ldc2_w 239, (0, 31, 0, 0, [])), (164, 1, .lload_n 1, x0), (165, 1, .lmul, x0), (166, 1, .aload_n 0, x0), (167, 1, .iconst 1, (1, 0, 0, 0, [])), (168, 3, .invokevirtual 259, (0, 0, 0, 1, [(11, 103)])), (171, 1, .i2l, x0), (172, 1, .ladd, x0), (173, 1, .lstore_n 1, x0), (174, 3, .ldc2_w 239, (0, 31, 0, 0, [])), (177, 1, .lload_n 1, x0), (178, 1, .lmul, x0), (179, 1, .aload_n 0, x0), (180, 1, .iconst 0, x0), (181, 3, .invokevirtual 262, (0, 0, 0, 1, [(11, 105)])), (184, 1, .i2l, x0), (185, 1, .ladd, x0), (186, 1, .lstore_n 1, x0), (187, 3, .ldc2_w 239, (0, 31, 0, 0, [])), (190, 1, .lload_n 1, x0), (191, 1, .lmul, x0), (192, 1, .aload_n 0, x0), (193, 1, .iconst 1, (1, 0, 0, 0, [])), (194, 3, .invokevirtual 262, (0, 0, 0, 1, [(11, 105)])), (197, 1, .i2l, x0), (198, 1, .ladd, x0), (199, 1, .lstore_n 1, x0), (200, 1, .iconst 0, x0), (201, 1, .istore_n 3, x0), (202, 1, .iload_n 3, x0), (203, 1, .iconst 3, (3, 0, 0, 0, [])), (204, 3, .if_icmp .ge 37, (0, 0, 241, 0, [])), (207, 3, .ldc2_w 239, (0, 31, 0, 0, [])), (210, 1, .lload_n 1, x0), (211, 1, .lmul, x0), (212, 1, .aload_n 0, x0), (213, 1, .iload_n 3, x0), (214, 1, .iconst 0, x0), (215, 3, .invokevirtual 265, (0, 0, 0, 2, [(11, 106)])), (218, 1, .i2l, x0), (219, 1, .ladd, x0), (220, 1, .lstore_n 1, x0), (221, 3, .ldc2_w 239, (0, 31, 0, 0, [])), (224, 1, .lload_n 1, x0), (225, 1, .lmul, x0), (226, 1, .aload_n 0, x0), (227, 1, .iload_n 3, x0), (228, 1, .iconst 1, (1, 0, 0, 0, [])), (229, 3, .invokevirtual 265, (0, 0, 0, 2, [(11, 106)])), (232, 1, .i2l, x0), (233, 1, .ladd, x0), (234, 1, .lstore_n 1, x0), (235, 3, .iinc 3 1, (1, 0, 3, 0, [])), (238, 3, .goto (-36), (0, 0, 202, 0, [])), (241, 1, .iconst 0, x0), (242, 1, .istore_n 3, x0), (243, 1, .iload_n 3, x0), (244, 1, .aload_n 0, x0), (245, 3, .getfield 63, (0, 0, 8, 11, [])), (248, 1, .arraylength, x0), (249, 3, .if_icmp .ge 35, (0, 0, 284, 0, [])), (252, 1, .aload_n 0, x0), (253, 3, .getfield 63, (0, 0, 8, 11, [])), (256, 1, .iload_n 3, x0), (257, 1, .aaload, x0), (258, 2, .astore 4, x0), (260, 2, .aload 4, x0), (262, 3, .ifnull 16, (0, 0, 278, 0, [])), (265, 3, .ldc2_w 239, (0, 31, 0, 0, [])), (268, 1, .lload_n 1, x0), (269, 1, .lmul, x0), (270, 2, .aload 4, x0), (272, 3, .invokevirtual 268, (0, 0, 0, 0, [(7, 52), (0, 1), (1, 4), (2, 7), (4, 14)])), (275, 1, .i2l, x0), (276, 1, .ladd, x0), (277, 1, .lstore_n 1, x0), (278, 3, .iinc 3 1, (1, 0, 3, 0, [])), (281, 3, .goto (-38), (0, 0, 243, 0, [])), (284, 1, .iconst 0, x0), (285, 1, .istore_n 3, x0), (286, 1, .iload_n 3, x0), (287, 1, .aload_n 0, x0), (288, 3, .getfield 10, (0, 0, 0, 11, [])), (291, 3, .invokevirtual 71, (0, 0, 0, 0, [(6, 39)])), (294, 3, .if_icmp .ge 25, (0, 0, 319, 0, [])), (297, 3, .ldc2_w 239, (0, 31, 0, 0, [])), (300, 1, .lload_n 1, x0), (301, 1, .lmul, x0), (302, 1, .aload_n 0, x0), (303, 3, .getfield 10, (0, 0, 0, 11, [])), (306, 1, .iload_n 3, x0), (307, 3, .invokevirtual 271, (0, 0, 0, 1, [(6, 41)])), (310, 1, .i2l, x0), (311, 1, .ladd, x0), (312, 1, .lstore_n 1, x0), (313, 3, .iinc 3 1, (1, 0, 3, 0, [])), (316, 3, .goto (-30), (0, 0, 286, 0, [])), (319, 1, .iconst 0, x0), (320, 1, .istore_n 3, x0), (321, 1, .iload_n 3, x0), (322, 2, .bipush 10, (10, 0, 0, 0, [])), (324, 3, .if_icmp .ge 22, (0, 0, 346, 0, [])), (327, 3, .ldc2_w 239, (0, 31, 0, 0, [])), (330, 1, .lload_n 1, x0), (331, 1, .lmul, x0), (332, 1, .aload_n 0, x0), (333, 1, .iload_n 3, x0), (334, 3, .invokevirtual 274, (0, 0, 0, 1, [(11, 113)])), (337, 1, .i2l, x0), (338, 1, .ladd, x0), (339, 1, .lstore_n 1, x0), (340, 3, .iinc 3 1, (1, 0, 3, 0, [])), (343, 3, .goto (-22), (0, 0, 321, 0, [])), (346, 1, .lload_n 1, x0), (347, 1, .lreturn, x0)]
theorem de_114 : (op_114.all fun e => decide (decode prog_1_method_27_code e.1 = .ok (e.2.2.1, e.2.1))) = true := by decide +kernel
/-- CutsOrFast.hasNet()Z -/
def op_115 : List (Nat × OpE) := [(0, 1, .aload_n 0, x0), (1, 3, .getfield 19, (0, 0, 1, 11, [])), (4, 3, .invokevirtual 100, (0, 0, 0, 0, [(5, 26)])), (7, 3, .ifCond .le 7, (0, 0, 14, 0, [])), (10, 1, .iconst 1, (1, 0, 0, 0, [])), (11, 3, .goto 4, (0, 0, 15, 0, [])), (14, 1, .iconst 0, x0), (15, 1, .ireturn, x0)]
theorem de_115 : (op_115.all fun e => decide (decode prog_1_method_28_code e.1 = .ok (e.2.2.1, e.2.1))) = true := by decide +kernel
/-- CutsOrFast.isLane(I)Z -/
def op_116 : List (Nat × OpE) := [(0, 1, .iload_n 1, x0), (1, 3, .ifCond .lt 18, (0, 0, 19, 0, [])), (4, 1, .iload_n 1, x0), (5, 1, .aload_n 0, x0), (6, 3, .getfield 19, (0, 0, 1, 11, [])), (9, 3, .invokevirtual 100, (0, 0, 0, 0, [(5, 26)])), (12, 3, .if_icmp .ge 7, (0, 0, 19, 0, [])), (15, 1, .iconst 1, (1, 0, 0, 0, [])), (16, 3, .goto 4, (0, 0, 20, 0, [])), (19, 1, .iconst 0, x0), (20, 1, .ireturn, x0)]
theorem de_116 : (op_116.all fun e => decide (decode prog_1_method_29_code e.1 = .ok (e.2.2.1, e.2.1))) = true := by decide +kernel
/-- CutsOrFast.isSide(I)Z -/
def op_117 : List (Nat × OpE) := [(0, 1, .iload_n 0, x0), (1, 3, .ifCond .eq 8, (0, 0, 9, 0, [])), (4, 1, .iload_n 0, x0), (5, 1, .iconst 1, (1, 0, 0, 0, [])), (6, 3, .if_icmp .ne 7, (0, 0, 13, 0, [])), (9, 1, .iconst 1, (1, 0, 0, 0, [])), (10, 3, .goto 4, (0, 0, 14, 0, [])), (13, 1, .iconst 0, x0), (14, 1, .ireturn, x0)]
theorem de_117 : (op_117.all fun e => decide (decode prog_1_method_30_code e.1 = .ok (e.2.2.1, e.2.1))) = true := by decide +kernel
/-- CutsOrFast.isKind(I)Z -/
def op_118 : List (Nat × OpE) := [(0, 1, .iload_n 0, x0), (1, 3, .ifCond .lt 12, (0, 0, 13, 0, [])), (4, 1, .iload_n 0, x0), (5, 1, .iconst 5, (5, 0, 0, 0, [])), (6, 3, .if_icmp .ge 7, (0, 0, 13, 0, [])), (9, 1, .iconst 1, (1, 0, 0, 0, [])), (10, 3, .goto 4, (0, 0, 14, 0, [])), (13, 1, .iconst 0, x0), (14, 1, .ireturn, x0)]
theorem de_118 : (op_118.all fun e => decide (decode prog_1_method_31_code e.1 = .ok (e.2.2.1, e.2.1))) = true := by decide +kernel
/-- CutsOrFast.canBeTaken(I)Z -/
def op_119 : List (Nat × OpE) := [(0, 1, .aload_n 0, x0), (1, 3, .getfield 28, (0, 0, 2, 11, [])), (4, 3, .invokevirtual 121, (0, 0, 0, 0, [(10, 77)])), (7, 3, .ifCond .ne 18, (0, 0, 25, 0, [])), (10, 1, .aload_n 0, x0), (11, 3, .getfield 28, (0, 0, 2, 11, [])), (14, 1, .iload_n 1, x0), (15, 3, .invokevirtual 112, (0, 0, 0, 1, [(10, 78)])), (18, 3, .ifCond .ne 7, (0, 0, 25, 0, [])), (21, 1, .iconst 1, (1, 0, 0, 0, [])), (22, 3, .goto 4, (0, 0, 26, 0, [])), (25, 1, .iconst 0, x0), (26, 1, .ireturn, x0)]
theorem de_119 : (op_119.all fun e => decide (decode prog_1_method_32_code e.1 = .ok (e.2.2.1, e.2.1))) = true := by decide +kernel
/-- CutsOrFast.playerAt(I)LCutsOrFast$Player; -/
def op_120 : List (Nat × OpE) := [(0, 1, .iload_n 1, x0), (1, 3, .ifCond .lt 21, (0, 0, 22, 0, [])), (4, 1, .iload_n 1, x0), (5, 1, .aload_n 0, x0), (6, 3, .getfield 63, (0, 0, 8, 11, [])), (9, 1, .arraylength, x0), (10, 3, .if_icmp .ge 12, (0, 0, 22, 0, [])), (13, 1, .aload_n 0, x0), (14, 3, .getfield 63, (0, 0, 8, 11, [])), (17, 1, .iload_n 1, x0), (18, 1, .aaload, x0), (19, 3, .goto 4, (0, 0, 23, 0, [])), (22, 1, .aconst_null, x0), (23, 1, .areturn, x0)]
theorem de_120 : (op_120.all fun e => decide (decode prog_1_method_33_code e.1 = .ok (e.2.2.1, e.2.1))) = true := by decide +kernel
/-- CutsOrFast.newPlayer(I)LCutsOrFast$Player; -/
def op_121 : List (Nat × OpE) := [(0, 1, .iload_n 0, x0), (1, 31, .tableswitch 63 1 4 #[31, 39, 47, 55], (0, 0, 64, 1, [(1, 32), (2, 40), (3, 48), (4, 56)])), (32, 3, .new 277, x0), (35, 1, .dup, x0), (36, 3, .invokespecial 279, x0), (39, 1, .areturn, x0), (40, 3, .new 280, (0, 0, 4, 2, [])), (43, 1, .dup, x0), (44, 3, .invokespecial 282, (0, 0, 13, 0, [])), (47, 1, .areturn, x0), (48, 3, .new 283, (0, 0, 2, 2, [])), (51, 1, .dup, x0), (52, 3, .invokespecial 285, (0, 0, 6, 0, [])), (55, 1, .areturn, x0), (56, 3, .new 286, (0, 0, 1, 0, [])), (59, 1, .dup, x0), (60, 3, .invokespecial 288, (0, 0, 3, 0, [])), (63, 1, .areturn, x0), (64, 3, .new 61, (0, 0, 7, 0, [])), (67, 1, .dup, x0), (68, 3, .invokespecial 289, (0, 0, 51, 0, [])), (71, 1, .areturn, x0)]
theorem de_121 : (op_121.all fun e => decide (decode prog_1_method_34_code e.1 = .ok (e.2.2.1, e.2.1))) = true := by decide +kernel
/-- CutsOrFast.isOfKind(LCutsOrFast$Player;I)Z -/
def op_122 : List (Nat × OpE) := [(0, 1, .iload_n 1, x0), (1, 31, .tableswitch 51 1 4 #[31, 36, 41, 46], (0, 0, 52, 1, [(1, 32), (2, 37), (3, 42), (4, 47)])), (32, 1, .aload_n 0, x0), (33, 3, .instanceof 277, (0, 0, 0, 0, [(0, 1), (1, 0), (2, 0), (4, 0), (7, 0)])), (36, 1, .ireturn, x0), (37, 1, .aload_n 0, x0), (38, 3, .instanceof 280, (0, 0, 0, 0, [(0, 0), (1, 0), (2, 1), (4, 1), (7, 0)])), (41, 1, .ireturn, x0), (42, 1, .aload_n 0, x0), (43, 3, .instanceof 283, (0, 0, 0, 0, [(0, 0), (1, 0), (2, 1), (4, 0), (7, 0)])), (46, 1, .ireturn, x0), (47, 1, .aload_n 0, x0), (48, 3, .instanceof 286, (0, 0, 0, 0, [(0, 0), (1, 1), (2, 0), (4, 0), (7, 0)])), (51, 1, .ireturn, x0), (52, 1, .iconst 1, (1, 0, 0, 0, [])), (53, 1, .ireturn, x0)]
theorem de_122 : (op_122.all fun e => decide (decode prog_1_method_35_code e.1 = .ok (e.2.2.1, e.2.1))) = true := by decide +kernel
/-- CutsOrFast.playOut(LCutsOrFast$Player;LCutsOrFast$Player;)I -/
def op_123 : List (Nat × OpE) := [(0, 1, .aload_n 0, x0), (1, 3, .getfield 35, (0, 0, 4, 11, [])), (4, 1, .aload_n 0, x0), (5, 3, .getfield 28, (0, 0, 2, 11, [])), (8, 3, .invokevirtual 159, (0, 0, 0, 1, [(10, 73)])), (11, 1, .iconst 0, x0), (12, 1, .istore_n 3, x0), (13, 1, .iload_n 3, x0), (14, 2, .bipush 9, (9, 0, 0, 0, [])), (16, 3, .if_icmp .ge 60, (0, 0, 76, 0, [])), (19, 1, .aload_n 0, x0), (20, 3, .getfield 35, (0, 0, 4, 11, [])), (23, 3, .invokevirtual 121, (0, 0, 0, 0, [(10, 77)])), (26, 3, .ifCond .ne 50, (0, 0, 76, 0, [])), (29, 1, .aload_n 0, x0), (30, 3, .getfield 35, (0, 0, 4, 11, [])), (33, 3, .invokevirtual 130, (0, 0, 0, 0, [(10, 82)])), (36, 3, .ifCond .ne 7, (0, 0, 43, 0, [])), (39, 1, .aload_n 1, x0), (40, 3, .goto 4, (0, 0, 44, 0, [])), (43, 1, .aload_n 2, x0), (44, 2, .astore 4, x0), (46, 1, .aload_n 0, x0), (47, 3, .getfield 35, (0, 0, 4, 11, [])), (50, 2, .aload 4, x0), (52, 1, .aload_n 0, x0), (53, 3, .getfield 35, (0, 0, 4, 11, [])), (56, 1, .aload_n 0, x0), (57, 3, .getfield 41, (0, 0, 5, 11, [])), (60, 1, .aload_n 0, x0), (61, 3, .getfield 57, (0, 0, 7, 11, [])), (64, 3, .invokevirtual 226, (0, 0, 0, 3, [(7, 53), (0, 2), (1, 5), (2, 15), (4, 15)])), (67, 3, .invokevirtual 140, (0, 0, 0, 1, [(10, 74)])), (70, 3, .iinc 3 1, (1, 0, 3, 0, [])), (73, 3, .goto (-60), (0, 0, 13, 0, [])), (76, 1, .iload_n 3, x0), (77, 1, .ireturn, x0)]
theorem de_123 : (op_123.all fun e => decide (decode prog_1_method_36_code e.1 = .ok (e.2.2.1, e.2.1))) = true := by decide +kernel
/-- CutsOrFast.factorial(I)I -/
def op_124 : List (Nat × OpE) := [(0, 3, .getstatic 290, x0), (3, 1, .iload_n 0, x0), (4, 3, .invokestatic 294, (0, 0, 126, 2, [])), (7, 1, .ireturn, x0)]
theorem de_124 : (op_124.all fun e => decide (decode prog_1_method_37_code e.1 = .ok (e.2.2.1, e.2.1))) = true := by decide +kernel
/-- CutsOrFast.greatestDivisor(II)I -/
def op_125 : List (Nat × OpE) := [(0, 1, .iload_n 0, x0), (1, 1, .istore_n 2, x0), (2, 1, .iload_n 1, x0), (3, 1, .istore_n 3, x0), (4, 1, .iconst 0, x0), (5, 2, .istore 4, x0), (7, 2, .iload 4, x0), (9, 2, .bipush 100, (100, 0, 0, 0, [])), (11, 3, .if_icmp .ge 23, (0, 0, 34, 0, [])), (14, 1, .iload_n 3, x0), (15, 3, .ifCond .eq 19, (0, 0, 34, 0, [])), (18, 1, .iload_n 2, x0), (19, 1, .iload_n 3, x0), (20, 1, .irem, x0), (21, 2, .istore 5, x0), (23, 1, .iload_n 3, x0), (24, 1, .istore_n 2, x0), (25, 2, .iload 5, x0), (27, 1, .istore_n 3, x0), (28, 3, .iinc 4 1, (1, 0, 4, 0, [])), (31, 3, .goto (-24), (0, 0, 7, 0, [])), (34, 1, .iload_n 2, x0), (35, 1, .ireturn, x0)]
theorem de_125 : (op_125.all fun e => decide (decode prog_1_method_38_code e.1 = .ok (e.2.2.1, e.2.1))) = true := by decide +kernel
/-- CutsOrFast.at([II)I -/
def op_126 : List (Nat × OpE) := [(0, 1, .iload_n 1, x0), (1, 3, .ifCond .lt 15, (0, 0, 16, 0, [])), (4, 1, .iload_n 1, x0), (5, 1, .aload_n 0, x0), (6, 1, .arraylength, x0), (7, 3, .if_icmp .ge 9, (0, 0, 16, 0, [])), (10, 1, .aload_n 0, x0), (11, 1, .iload_n 1, x0), (12, 1, .iaload, x0), (13, 3, .goto 4, (0, 0, 17, 0, [])), (16, 1, .iconst 0, x0), (17, 1, .ireturn, x0)]
theorem de_126 : (op_126.all fun e => decide (decode prog_1_method_39_code e.1 = .ok (e.2.2.1, e.2.1))) = true := by decide +kernel
/-- CutsOrFast.put([III)V -/
def op_127 : List (Nat × OpE) := [(0, 1, .iload_n 1, x0), (1, 3, .ifCond .lt 13, (0, 0, 14, 0, [])), (4, 1, .iload_n 1, x0), (5, 1, .aload_n 0, x0), (6, 1, .arraylength, x0), (7, 3, .if_icmp .ge 7, (0, 0, 14, 0, [])), (10, 1, .aload_n 0, x0), (11, 1, .iload_n 1, x0), (12, 1, .iload_n 2, x0), (13, 1, .iastore, x0), (14, 1, .return_, x0)]
theorem de_127 : (op_127.all fun e => decide (decode prog_1_method_40_code e.1 = .ok (e.2.2.1, e.2.1))) = true := by decide +kernel
/-- CutsOrFastModel.<init>()V -/
def op_128 : List (Nat × OpE) := [(0, 1, .aload_n 0, x0), (1, 3, .invokespecial 1, (0, 0, 9999, 0, [])), (4, 1, .aload_n 0, x0), (5, 2, .bipush 10, (10, 0, 0, 0, [])), (7, 2, .newarray .int, (0, 0, 20, 0, [])), (9, 3, .putfield 7, (0, 0, 4, 12, [])), (12, 1, .aload_n 0, x0), (13, 2, .bipush 10, (10, 0, 0, 0, [])), (15, 2, .newarray .int, (0, 0, 20, 0, [])), (17, 3, .putfield 13, (0, 0, 5, 12, [])), (20, 1, .aload_n 0, x0), (21, 2, .bipush 10, (10, 0, 0, 0, [])), (23, 2, .newarray .int, (0, 0, 20, 0, [])), (25, 3, .putfield 16, (0, 0, 6, 12, [])), (28, 1, .aload_n 0, x0), (29, 2, .bipush 10, (10, 0, 0, 0, [])), (31, 2, .newarray .int, (0, 0, 20, 0, [])), (33, 3, .putfield 19, (0, 0, 7, 12, [])), (36, 1, .aload_n 0, x0), (37, 2, .bipush 9, (9, 0, 0, 0, [])), (39, 2, .newarray .int, (0, 0, 20, 0, [])), (41, 3, .putfield 22, (0, 0, 10, 12, [])), (44, 1, .aload_n 0, x0), (45, 1, .iconst 5, (5, 0, 0, 0, [])), (46, 2, .newarray .int, (0, 0, 20, 0, [])), (48, 3, .putfield 25, (0, 0, 12, 12, [])), (51, 1, .aload_n 0, x0), (52, 2, .bipush 50, (50, 0, 0, 0, [])), (54, 2, .newarray .byte, (0, 0, 22, 0, [])), (56, 3, .putfield 28, (0, 0, 15, 12, [])), (59, 1, .aload_n 0, x0), (60, 2, .bipush 9, (9, 0, 0, 0, [])), (62, 2, .newarray .int, (0, 0, 20, 0, [])), (64, 3, .putfield 32, (0, 0, 20, 12, [])), (67, 1, .aload_n 0, x0), (68, 2, .bipush 9, (9, 0, 0, 0, [])), (70, 2, .newarray .int, (0, 0, 20, 0, [])), (72, 3, .putfield 35, (0, 0, 21, 12, [])), (75, 1, .aload_n 0, x0), (76, 2, .bipush 9, (9, 0, 0, 0, [])), (78, 2, .newarray .int, (0, 0, 20, 0, [])), (80, 3, .putfield 38, (0, 0, 27, 12, [])), (83, 1, .aload_n 0, x0), (84, 2, .bipush 9, (9, 0, 0, 0, [])), (86, 2, .newarray .int, (0, 0, 20, 0, [])), (88, 3, .putfield 41, (0, 0, 28, 12, [])), (91, 1, .aload_n 0, x0), (92, 2, .bipush 9, (9, 0, 0, 0, [])), (94, 2, .newarray .int, (0, 0, 20, 0, [])), (96, 3, .putfield 44, (0, 0, 29, 12, [])), (99, 1, .aload_n 0, x0), (100, 2, .bipush 9, (9, 0, 0, 0, [])), (102, 2, .newarray .int, (0, 0, 20, 0, [])), (104, 3, .putfield 47, (0, 0, 30, 12, [])), (107, 1, .aload_n 0, x0), (108, 3, .sipush 1024, (1024, 0, 0, 0, [])), (111, 2, .newarray .boolean, (0, 0, 23, 0, [])), (113, 3, .putfield 50, (0, 0, 31, 12, [])), (116, 1, .aload_n 0, x0), (117, 2, .bipush 10, (10, 0, 0, 0, [])), (119, 2, .newarray .int, (0, 0, 20, 0, [])), (121, 3, .putfield 54, (0, 0, 33, 12, [])), (124, 1, .aload_n 0, x0), (125, 2, .bipush 11, (11, 0, 0, 0, [])), (127, 2, .newarray .int, (0, 0, 20, 0, [])), (129, 3, .putfield 57, (0, 0, 34, 12, [])), (132, 1, .aload_n 0, x0), (133, 2, .ldc 60, (118098, 0, 0, 0, [])), (135, 2, .newarray .boolean, (0, 0, 23, 0, [])), (137, 3, .putfield 61, (0, 0, 36, 12, [])), (140, 1, .aload_n 0, x0), (141, 2, .ldc 64, (39366, 0, 0, 0, [])), (143, 2, .newarray .int, (0, 0, 20, 0, [])), (145, 3, .putfield 65, (0, 0, 40, 12, [])), (148, 1, .aload_n 0, x0), (149, 2, .bipush 20, (20, 0, 0, 0, [])), (151, 2, .newarray .int, (0, 0, 20, 0, [])), (153, 3, .putfield 68, (0, 0, 41, 12, [])), (156, 1, .aload_n 0, x0), (157, 2, .bipush 6, (6, 0, 0, 0, [])), (159, 2, .newarray .int, (0, 0, 20, 0, [])), (161, 3, .putfield 71, (0, 0, 43, 12, [])), (164, 1, .aload_n 0, x0), (165, 2, .bipush 6, (6, 0, 0, 0, [])), (167, 2, .newarray .int, (0, 0, 20, 0, [])), (169, 3, .putfield 74, (0, 0, 44, 12, [])), (172, 1, .aload_n 0, x0), (173, 2, .bipush 9, (9, 0, 0, 0, [])), (175, 2, .newarray .int, (0, 0, 20, 0, [])), (177, 3, .putfield 77, (0, 0, 45, 12, [])), (180, 1, .return_, x0)]
theorem de_128 : (op_128.all fun e => decide (decode prog_14_method_1_code e.1 = .ok (e.2.2.1, e.2.1))) = true := by decide +kernel
/-- CutsOrFastModel.within(III)Z -/
def op_129 : List (Nat × OpE) := [(0, 1, .iload_n 0, x0), (1, 1, .iload_n 1, x0), (2, 3, .if_icmp .lt 12, (0, 0, 14, 0, [])), (5, 1, .iload_n 0, x0), (6, 1, .iload_n 2, x0), (7, 3, .if_icmp .gt 7, (0, 0, 14, 0, [])), (10, 1, .iconst 1, (1, 0, 0, 0, [])), (11, 3, .goto 4, (0, 0, 15, 0, [])), (14, 1, .iconst 0, x0), (15, 1, .ireturn, x0)]
theorem de_129 : (op_129.all fun e => decide (decode prog_14_method_3_code e.1 = .ok (e.2.2.1, e.2.1))) = true := by decide +kernel
/-- CutsOrFastModel.has(II)Z -/
def op_130 : List (Nat × OpE) := [(0, 1, .iload_n 0, x0), (1, 1, .iload_n 1, x0), (2, 1, .ishr, x0), (3, 1, .iconst 1, (1, 0, 0, 0, [])), (4, 1, .iand, x0), (5, 1, .iconst 1, (1, 0, 0, 0, [])), (6, 3, .if_icmp .ne 7, (0, 0, 13, 0, [])), (9, 1, .iconst 1, (1, 0, 0, 0, [])), (10, 3, .goto 4, (0, 0, 14, 0, [])), (13, 1, .iconst 0, x0), (14, 1, .ireturn, x0)]
theorem de_130 : (op_130.all fun e => decide (decode prog_14_method_4_code e.1 = .ok (e.2.2.1, e.2.1))) = true := by decide +kernel
/-- CutsOrFastModel.letters(J)I -/
def op_131 : List (Nat × OpE) := [(0, 1, .iconst 0, x0), (1, 1, .istore_n 3, x0), (2, 1, .iconst 0, x0), (3, 2, .istore 4, x0), (5, 1, .iconst 0, x0), (6, 2, .istore 5, x0), (8, 2, .iload 5, x0), (10, 2, .bipush 8, (8, 0, 0, 0, [])), (12, 3, .if_icmp .ge 73, (0, 0, 85, 0, [])), (15, 1, .lload_n 1, x0), (16, 2, .bipush 8, (8, 0, 0, 0, [])), (18, 2, .iload 5, x0), (20, 1, .imul, x0), (21, 1, .lshr, x0), (22, 3, .ldc2_w 80, (0, 255, 0, 0, [])), (25, 1, .land, x0), (26, 1, .l2i, x0), (27, 2, .istore 6, x0), (29, 2, .iload 6, x0), (31, 2, .bipush 126, (126, 0, 0, 0, [])), (33, 3, .if_icmp .gt 13, (0, 0, 46, 0, [])), (36, 2, .iload 4, x0), (38, 3, .ifCond .eq 11, (0, 0, 49, 0, [])), (41, 2, .iload 6, x0), (43, 3, .ifCond .eq 6, (0, 0, 49, 0, [])), (46, 2, .bipush (-102), ((-102), 0, 0, 0, [])), (48, 1, .ireturn, x0), (49, 2, .iload 4, x0), (51, 3, .ifCond .ne 8, (0, 0, 59, 0, [])), (54, 2, .iload 6, x0), (56, 3, .ifCond .ne 7, (0, 0, 63, 0, [])), (59, 1, .iconst 1, (1, 0, 0, 0, [])), (60, 3, .goto 4, (0, 0, 64, 0, [])), (63, 1, .iconst 0, x0), (64, 2, .istore 4, x0), (66, 1, .iload_n 3, x0), (67, 2, .iload 6, x0), (69, 3, .ifCond .ne 7, (0, 0, 76, 0, [])), (72, 1, .iconst 0, x0), (73, 3, .goto 4, (0, 0, 77, 0, [])), (76, 1, .iconst 1, (1, 0, 0, 0, [])), (77, 1, .iadd, x0), (78, 1, .istore_n 3, x0), (79, 3, .iinc 5 1, (1, 0, 5, 0, [])), (82, 3, .goto (-74), (0, 0, 8, 0, [])), (85, 1, .aload_n 0, x0), (86, 3, .getfield 82, (0, 0, 14, 12, [])), (89, 1, .iload_n 3, x0), (90, 1, .iadd, x0), (91, 2, .bipush 50, (50, 0, 0, 0, [])), (93, 3, .if_icmp .le 6, (0, 0, 99, 0, [])), (96, 2, .bipush (-104), ((-104), 0, 0, 0, [])), (98, 1, .ireturn, x0), (99, 1, .iconst 0, x0), (100, 2, .istore 5, x0), (102, 2, .iload 5, x0), (104, 1, .iload_n 3, x0), (105, 3, .if_icmp .ge 30, (0, 0, 135, 0, [])), (108, 1, .aload_n 0, x0), (109, 3, .getfield 28, (0, 0, 15, 12, [])), (112, 1, .aload_n 0, x0), (113, 3, .getfield 82, (0, 0, 14, 12, [])), (116, 2, .iload 5, x0), (118, 1, .iadd, x0), (119, 1, .lload_n 1, x0), (120, 2, .bipush 8, (8, 0, 0, 0, [])), (122, 2, .iload 5, x0), (124, 1, .imul, x0), (125, 1, .lshr, x0), (126, 1, .l2i, x0), (127, 1, .i2b, x0), (128, 1, .bastore, x0), (129, 3, .iinc 5 1, (1, 0, 5, 0, [])), (132, 3, .goto (-30), (0, 0, 102, 0, [])), (135, 1, .aload_n 0, x0), (136, 1, .dup, x0), (137, 3, .getfield 82, (0, 0, 14, 12, [])), (140, 1, .iload_n 3, x0), (141, 1, .iadd, x0), (142, 3, .putfield 82, (0, 0, 14, 12, [])), (145, 1, .aload_n 0, x0), (146, 3, .getfield 82, (0, 0, 14, 12, [])), (149, 1, .ireturn, x0)]
theorem de_131 : (op_131.all fun e => decide (decode prog_14_method_5_code e.1 = .ok (e.2.2.1, e.2.1))) = true := by decide +kernel
/-- CutsOrFastModel.blank()I -/
def op_132 : List (Nat × OpE) := [(0, 1, .aload_n 0, x0), (1, 3, .getfield 82, (0, 0, 14, 12, [])), (4, 1, .istore_n 1, x0), (5, 1, .aload_n 0, x0), (6, 1, .iconst 0, x0), (7, 3, .putfield 82, (0, 0, 14, 12, [])), (10, 1, .iload_n 1, x0), (11, 1, .ireturn, x0)]
theorem de_132 : (op_132.all fun e => decide (decode prog_14_method_6_code e.1 = .ok (e.2.2.1, e.2.1))) = true := by decide +kernel
/-- CutsOrFastModel.nextState(II)I -/
def op_133 : List (Nat × OpE) := [(0, 1, .iload_n 2, x0), (1, 2, .bipush 97, (97, 0, 0, 0, [])), (3, 2, .bipush 102, (102, 0, 0, 0, [])), (5, 3, .invokestatic 86, (0, 0, 129, 3, [])), (8, 1, .istore_n 3, x0), (9, 1, .iload_n 1, x0), (10, 34, .tableswitch 206 0 4 #[34, 52, 81, 93, 136], (0, 0, 216, 0, [(0, 44), (1, 62), (2, 91), (3, 103), (4, 146)])), (44, 1, .aload_n 0, x0), (45, 1, .iload_n 2, x0), (46, 2, .bipush 97, (97, 0, 0, 0, [])), (48, 1, .isub, x0), (49, 3, .putfield 90, (0, 0, 25, 12, [])), (52, 1, .iload_n 3, x0), (53, 3, .ifCond .eq 7, (0, 0, 60, 0, [])), (56, 1, .iconst 1, (1, 0, 0, 0, [])), (57, 3, .goto 4, (0, 0, 61, 0, [])), (60, 1, .iconst (-1), ((-1), 0, 0, 0, [])), (61, 1, .ireturn, x0), (62, 1, .aload_n 0, x0), (63, 1, .iload_n 2, x0), (64, 2, .bipush 97, (97, 0, 0, 0, [])), (66, 1, .isub, x0), (67, 3, .putfield 93, (0, 0, 26, 12, [])), (70, 1, .iload_n 3, x0), (71, 3, .ifCond .eq 18, (0, 0, 89, 0, [])), (74, 1, .aload_n 0, x0), (75, 3, .getfield 93, (0, 0, 26, 12, [])), (78, 1, .aload_n 0, x0), (79, 3, .getfield 90, (0, 0, 25, 12, [])), (82, 3, .if_icmp .eq 7, (0, 0, 89, 0, [])), (85, 1, .iconst 2, (2, 0, 0, 0, [])), (86, 3, .goto 4, (0, 0, 90, 0, [])), (89, 1, .iconst (-1), ((-1), 0, 0, 0, [])), (90, 1, .ireturn, x0), (91, 1, .iload_n 2, x0), (92, 2, .bipush 58, (58, 0, 0, 0, [])), (94, 3, .if_icmp .ne 7, (0, 0, 101, 0, [])), (97, 1, .iconst 3, (3, 0, 0, 0, [])), (98, 3, .goto 4, (0, 0, 102, 0, [])), (101, 1, .iconst (-1), ((-1), 0, 0, 0, [])), (102, 1, .ireturn, x0), (103, 1, .aload_n 0, x0), (104, 3, .getfield 38, (0, 0, 27, 12, [])), (107, 1, .aload_n 0, x0), (108, 3, .getfield 96, (0, 0, 24, 12, [])), (111, 1, .iload_n 2, x0), (112, 2, .bipush 97, (97, 0, 0, 0, [])), (114, 1, .isub, x0), (115, 1, .iastore, x0), (116, 1, .aload_n 0, x0), (117, 3, .getfield 44, (0, 0, 29, 12, [])), (120, 1, .aload_n 0, x0), (121, 3, .getfield 96, (0, 0, 24, 12, [])), (124, 1, .iconst 0, x0), (125, 1, .iastore, x0), (126, 1, .aload_n 0, x0), (127, 3, .getfield 47, (0, 0, 30, 12, [])), (130, 1, .aload_n 0, x0), (131, 3, .getfield 96, (0, 0, 24, 12, [])), (134, 1, .iconst 1, (1, 0, 0, 0, [])), (135, 1, .iastore, x0), (136, 1, .iload_n 3, x0), (137, 3, .ifCond .eq 7, (0, 0, 144, 0, [])), (140, 1, .iconst 4, (4, 0, 0, 0, [])), (141, 3, .goto 4, (0, 0, 145, 0, [])), (144, 1, .iconst (-1), ((-1), 0, 0, 0, [])), (145, 1, .ireturn, x0), (146, 1, .iload_n 3, x0), (147, 3, .ifCond .eq 23, (0, 0, 170, 0, [])), (150, 1, .iload_n 2, x0), (151, 2, .bipush 97, (97, 0, 0, 0, [])), (153, 1, .isub, x0), (154, 1, .aload_n 0, x0), (155, 3, .getfield 38, (0, 0, 27, 12, [])), (158, 1, .aload_n 0, x0), (159, 3, .getfield 96, (0, 0, 24, 12, [])), (162, 1, .iaload, x0), (163, 3, .if_icmp .eq 7, (0, 0, 170, 0, [])), (166, 1, .iconst 1, (1, 0, 0, 0, [])), (167, 3, .goto 4, (0, 0, 171, 0, [])), (170, 1, .iconst 0, x0), (171, 2, .istore 4, x0), (173, 1, .aload_n 0, x0), (174, 3, .getfield 41, (0, 0, 28, 12, [])), (177, 1, .aload_n 0, x0), (178, 3, .getfield 96, (0, 0, 24, 12, [])), (181, 1, .iload_n 2, x0), (182, 2, .bipush 97, (97, 0, 0, 0, [])), (184, 1, .isub, x0), (185, 1, .iastore, x0), (186, 1, .aload_n 0, x0), (187, 1, .dup, x0), (188, 3, .getfield 96, (0, 0, 24, 12, [])), (191, 2, .iload 4, x0), (193, 3, .ifCond .eq 7, (0, 0, 200, 0, [])), (196, 1, .iconst 1, (1, 0, 0, 0, [])), (197, 3, .goto 4, (0, 0, 201, 0, [])), (200, 1, .iconst 0, x0), (201, 1, .iadd, x0), (202, 3, .putfield 96, (0, 0, 24, 12, [])), (205, 2, .iload 4, x0), (207, 3, .ifCond .eq 7, (0, 0, 214, 0, [])), (210, 1, .iconst 5, (5, 0, 0, 0, [])), (211, 3, .goto 4, (0, 0, 215, 0, [])), (214, 1, .iconst (-1), ((-1), 0, 0, 0, [])), (215, 1, .ireturn, x0), (216, 1, .aload_n 0, x0), (217, 1, .iload_n 1, x0), (218, 1, .iload_n 2, x0), (219, 3, .invokevirtual 99, (0, 0, 0, 2, [(12, 134)])), (222, 1, .ireturn, x0)]
theorem de_133 : (op_133.all fun e => decide (decode prog_14_method_7_code e.1 = .ok (e.2.2.1, e.2.1))) = true := by decide +kernel
/-- CutsOrFastModel.behindLane(II)I -/
def op_134 : List (Nat × OpE) := [(0, 1, .iload_n 1, x0), (1, 1, .iconst 5, (5, 0, 0, 0, [])), (2, 3, .if_icmp .ne 40, (0, 0, 42, 0, [])), (5, 1, .iload_n 2, x0), (6, 2, .bipush 43, (43, 0, 0, 0, [])), (8, 3, .if_icmp .eq 9, (0, 0, 17, 0, [])), (11, 1, .iload_n 2, x0), (12, 2, .bipush 45, (45, 0, 0, 0, [])), (14, 3, .if_icmp .ne 28, (0, 0, 42, 0, [])), (17, 1, .aload_n 0, x0), (18, 3, .getfield 44, (0, 0, 29, 12, [])), (21, 1, .aload_n 0, x0), (22, 3, .getfield 96, (0, 0, 24, 12, [])), (25, 1, .iconst 1, (1, 0, 0, 0, [])), (26, 1, .isub, x0), (27, 1, .iload_n 2, x0), (28, 2, .bipush 43, (43, 0, 0, 0, [])), (30, 3, .if_icmp .ne 7, (0, 0, 37, 0, [])), (33, 1, .iconst 1, (1, 0, 0, 0, [])), (34, 3, .goto 4, (0, 0, 38, 0, [])), (37, 1, .iconst 2, (2, 0, 0, 0, [])), (38, 1, .iastore, x0), (39, 2, .bipush 6, (6, 0, 0, 0, [])), (41, 1, .ireturn, x0), (42, 1, .iload_n 1, x0), (43, 2, .bipush 7, (7, 0, 0, 0, [])), (45, 3, .if_icmp .ge 32, (0, 0, 77, 0, [])), (48, 1, .iload_n 2, x0), (49, 2, .bipush 49, (49, 0, 0, 0, [])), (51, 2, .bipush 57, (57, 0, 0, 0, [])), (53, 3, .invokestatic 86, (0, 0, 129, 3, [])), (56, 3, .ifCond .eq 21, (0, 0, 77, 0, [])), (59, 1, .aload_n 0, x0), (60, 3, .getfield 47, (0, 0, 30, 12, [])), (63, 1, .aload_n 0, x0), (64, 3, .getfield 96, (0, 0, 24, 12, [])), (67, 1, .iconst 1, (1, 0, 0, 0, [])), (68, 1, .isub, x0), (69, 1, .iload_n 2, x0), (70, 2, .bipush 48, (48, 0, 0, 0, [])), (72, 1, .isub, x0), (73, 1, .iastore, x0), (74, 2, .bipush 7, (7, 0, 0, 0, [])), (76, 1, .ireturn, x0), (77, 1, .iload_n 2, x0), (78, 2, .bipush 44, (44, 0, 0, 0, [])), (80, 3, .if_icmp .ne 16, (0, 0, 96, 0, [])), (83, 1, .aload_n 0, x0), (84, 3, .getfield 96, (0, 0, 24, 12, [])), (87, 2, .bipush 9, (9, 0, 0, 0, [])), (89, 3, .if_icmp .ge 7, (0, 0, 96, 0, [])), (92, 1, .iconst 3, (3, 0, 0, 0, [])), (93, 3, .goto 4, (0, 0, 97, 0, [])), (96, 1, .iconst (-1), ((-1), 0, 0, 0, [])), (97, 1, .ireturn, x0)]
theorem de_134 : (op_134.all fun e => decide (decode prog_14_method_8_code e.1 = .ok (e.2.2.1, e.2.1))) = true := by decide +kernel
/-- CutsOrFastModel.readNet()V -/
def op_135 : List (Nat × OpE) := [(0, 1, .aload_n 0, x0), (1, 1, .iconst 0, x0), (2, 3, .putfield 96, (0, 0, 24, 12, [])), (5, 1, .iconst 0, x0), (6, 1, .istore_n 1, x0), (7, 1, .iconst 0, x0), (8, 1, .istore_n 2, x0), (9, 1, .iconst 1, (1, 0, 0, 0, [])), (10, 1, .istore_n 3, x0), (11, 1, .iload_n 2, x0), (12, 1, .aload_n 0, x0), (13, 3, .getfield 82, (0, 0, 14, 12, [])), (16, 3, .if_icmp .ge 58, (0, 0, 74, 0, [])), (19, 1, .iload_n 3, x0), (20, 3, .ifCond .eq 54, (0, 0, 74, 0, [])), (23, 1, .aload_n 0, x0), (24, 1, .iload_n 1, x0), (25, 1, .aload_n 0, x0), (26, 3, .getfield 28, (0, 0, 15, 12, [])), (29, 1, .iload_n 2, x0), (30, 1, .baload, x0), (31, 3, .invokevirtual 103, (0, 0, 0, 2, [(12, 133)])), (34, 2, .istore 4, x0), (36, 2, .iload 4, x0), (38, 1, .iconst (-1), ((-1), 0, 0, 0, [])), (39, 3, .if_icmp .eq 7, (0, 0, 46, 0, [])), (42, 1, .iconst 1, (1, 0, 0, 0, [])), (43, 3, .goto 4, (0, 0, 47, 0, [])), (46, 1, .iconst 0, x0), (47, 1, .istore_n 3, x0), (48, 1, .iload_n 3, x0), (49, 3, .ifCond .eq 8, (0, 0, 57, 0, [])), (52, 2, .iload 4, x0), (54, 3, .goto 4, (0, 0, 58, 0, [])), (57, 1, .iload_n 1, x0), (58, 1, .istore_n 1, x0), (59, 1, .iload_n 2, x0), (60, 1, .iload_n 3, x0), (61, 3, .ifCond .eq 7, (0, 0, 68, 0, [])), (64, 1, .iconst 1, (1, 0, 0, 0, [])), (65, 3, .goto 4, (0, 0, 69, 0, [])), (68, 1, .iconst 0, x0), (69, 1, .iadd, x0), (70, 1, .istore_n 2, x0), (71, 3, .goto (-60), (0, 0, 11, 0, [])), (74, 1, .aload_n 0, x0), (75, 1, .iload_n 2, x0), (76, 3, .putfield 106, (0, 0, 22, 12, [])), (79, 1, .aload_n 0, x0), (80, 1, .iload_n 2, x0), (81, 1, .aload_n 0, x0), (82, 3, .getfield 82, (0, 0, 14, 12, [])), (85, 3, .if_icmp .ne 12, (0, 0, 97, 0, [])), (88, 1, .iload_n 1, x0), (89, 1, .iconst 4, (4, 0, 0, 0, [])), (90, 3, .if_icmp .le 7, (0, 0, 97, 0, [])), (93, 1, .iconst 1, (1, 0, 0, 0, [])), (94, 3, .goto 4, (0, 0, 98, 0, [])), (97, 1, .iconst 0, x0), (98, 3, .putfield 109, (0, 0, 23, 12, [])), (101, 1, .return_, x0)]
theorem de_135 : (op_135.all fun e => decide (decode prog_14_method_9_code e.1 = .ok (e.2.2.1, e.2.1))) = true := by decide +kernel
/-- CutsOrFastModel.fault()I -/
def op_136 : List (Nat × OpE) := [(0, 1, .aload_n 0, x0), (1, 3, .invokevirtual 113, (0, 0, 0, 0, [(12, 135)])), (4, 1, .aload_n 0, x0), (5, 3, .getfield 106, (0, 0, 22, 12, [])), (8, 1, .ireturn, x0)]
theorem de_136 : (op_136.all fun e => decide (decode prog_14_method_10_code e.1 = .ok (e.2.2.1, e.2.1))) = true := by decide +kernel
/-- CutsOrFastModel.net()I -/
def op_137 : List (Nat × OpE) := [(0, 1, .aload_n 0, x0), (1, 3, .invokevirtual 113, (0, 0, 0, 0, [(12, 135)])), (4, 1, .aload_n 0, x0), (5, 3, .getfield 109, (0, 0, 23, 12, [])), (8, 3, .ifCond .ne 6, (0, 0, 14, 0, [])), (11, 2, .bipush (-103), ((-103), 0, 0, 0, [])), (13, 1, .ireturn, x0), (14, 1, .aload_n 0, x0), (15, 1, .aload_n 0, x0), (16, 3, .getfield 96, (0, 0, 24, 12, [])), (19, 3, .putfield 116, (0, 0, 0, 12, [])), (22, 1, .aload_n 0, x0), (23, 1, .aload_n 0, x0), (24, 3, .getfield 90, (0, 0, 25, 12, [])), (27, 3, .putfield 119, (0, 0, 2, 12, [])), (30, 1, .aload_n 0, x0), (31, 1, .aload_n 0, x0), (32, 3, .getfield 93, (0, 0, 26, 12, [])), (35, 3, .putfield 122, (0, 0, 3, 12, [])), (38, 1, .iconst 0, x0), (39, 1, .istore_n 1, x0), (40, 1, .iload_n 1, x0), (41, 1, .aload_n 0, x0), (42, 3, .getfield 116, (0, 0, 0, 12, [])), (45, 3, .if_icmp .ge 57, (0, 0, 102, 0, [])), (48, 1, .aload_n 0, x0), (49, 3, .getfield 7, (0, 0, 4, 12, [])), (52, 1, .iload_n 1, x0), (53, 1, .aload_n 0, x0), (54, 3, .getfield 38, (0, 0, 27, 12, [])), (57, 1, .iload_n 1, x0), (58, 1, .iaload, x0), (59, 1, .iastore, x0), (60, 1, .aload_n 0, x0), (61, 3, .getfield 13, (0, 0, 5, 12, [])), (64, 1, .iload_n 1, x0), (65, 1, .aload_n 0, x0), (66, 3, .getfield 41, (0, 0, 28, 12, [])), (69, 1, .iload_n 1, x0), (70, 1, .iaload, x0), (71, 1, .iastore, x0), (72, 1, .aload_n 0, x0), (73, 3, .getfield 16, (0, 0, 6, 12, [])), (76, 1, .iload_n 1, x0), (77, 1, .aload_n 0, x0), (78, 3, .getfield 44, (0, 0, 29, 12, [])), (81, 1, .iload_n 1, x0), (82, 1, .iaload, x0), (83, 1, .iastore, x0), (84, 1, .aload_n 0, x0), (85, 3, .getfield 19, (0, 0, 7, 12, [])), (88, 1, .iload_n 1, x0), (89, 1, .aload_n 0, x0), (90, 3, .getfield 47, (0, 0, 30, 12, [])), (93, 1, .iload_n 1, x0), (94, 1, .iaload, x0), (95, 1, .iastore, x0), (96, 3, .iinc 1 1, (1, 0, 1, 0, [])), (99, 3, .goto (-59), (0, 0, 40, 0, [])), (102, 1, .aload_n 0, x0), (103, 1, .iconst 0, x0), (104, 3, .putfield 125, (0, 0, 8, 12, [])), (107, 1, .aload_n 0, x0), (108, 1, .iconst 0, x0), (109, 3, .putfield 128, (0, 0, 9, 12, [])), (112, 1, .aload_n 0, x0), (113, 1, .dup, x0), (114, 3, .getfield 131, (0, 0, 1, 12, [])), (117, 1, .iconst 1, (1, 0, 0, 0, [])), (118, 1, .iadd, x0), (119, 3, .putfield 131, (0, 0, 1, 12, [])), (122, 1, .aload_n 0, x0), (123, 1, .iconst 0, x0), (124, 3, .putfield 82, (0, 0, 14, 12, [])), (127, 1, .aload_n 0, x0), (128, 3, .getfield 116, (0, 0, 0, 12, [])), (131, 1, .ireturn, x0)]
theorem de_137 : (op_137.all fun e => decide (decode prog_14_method_11_code e.1 = .ok (e.2.2.1, e.2.1))) = true := by decide +kernel
/-- CutsOrFastModel.isLaneNumber(I)Z -/
def op_138 : List (Nat × OpE) := [(0, 1, .iload_n 1, x0), (1, 1, .iconst 0, x0), (2, 1, .aload_n 0, x0), (3, 3, .getfield 116, (0, 0, 0, 12, [])), (6, 1, .iconst 1, (1, 0, 0, 0, [])), (7, 1, .isub, x0), (8, 3, .invokestatic 86, (0, 0, 129, 3, [])), (11, 1, .ireturn, x0)]
theorem de_138 : (op_138.all fun e => decide (decode prog_14_method_12_code e.1 = .ok (e.2.2.1, e.2.1))) = true := by decide +kernel
/-- CutsOrFastModel.laneNow(II)I -/
def op_139 : List (Nat × OpE) := [(0, 1, .iload_n 2, x0), (1, 27, .tableswitch 48 0 2 #[27, 34, 41], (0, 0, 49, 0, [(0, 28), (1, 35), (2, 42)])), (28, 1, .aload_n 0, x0), (29, 3, .getfield 7, (0, 0, 4, 12, [])), (32, 1, .iload_n 1, x0), (33, 1, .iaload, x0), (34, 1, .ireturn, x0), (35, 1, .aload_n 0, x0), (36, 3, .getfield 13, (0, 0, 5, 12, [])), (39, 1, .iload_n 1, x0), (40, 1, .iaload, x0), (41, 1, .ireturn, x0), (42, 1, .aload_n 0, x0), (43, 3, .getfield 16, (0, 0, 6, 12, [])), (46, 1, .iload_n 1, x0), (47, 1, .iaload, x0), (48, 1, .ireturn, x0), (49, 1, .aload_n 0, x0), (50, 3, .getfield 19, (0, 0, 7, 12, [])), (53, 1, .iload_n 1, x0), (54, 1, .iaload, x0), (55, 1, .ireturn, x0)]
theorem de_139 : (op_139.all fun e => decide (decode prog_14_method_13_code e.1 = .ok (e.2.2.1, e.2.1))) = true := by decide +kernel
/-- CutsOrFastModel.lane(II)I -/
def op_140 : List (Nat × OpE) := [(0, 1, .aload_n 0, x0), (1, 1, .iload_n 1, x0), (2, 3, .invokevirtual 134, (0, 0, 0, 1, [(12, 138)])), (5, 3, .ifCond .ne 8, (0, 0, 13, 0, [])), (8, 2, .bipush (-101), ((-101), 0, 0, 0, [])), (10, 3, .goto 23, (0, 0, 33, 0, [])), (13, 1, .iload_n 2, x0), (14, 1, .iconst 0, x0), (15, 1, .iconst 3, (3, 0, 0, 0, [])), (16, 3, .invokestatic 86, (0, 0, 129, 3, [])), (19, 3, .ifCond .eq 12, (0, 0, 31, 0, [])), (22, 1, .aload_n 0, x0), (23, 1, .iload_n 1, x0), (24, 1, .iload_n 2, x0), (25, 3, .invokevirtual 138, (0, 0, 0, 2, [(12, 139)])), (28, 3, .goto 5, (0, 0, 33, 0, [])), (31, 2, .bipush (-102), ((-102), 0, 0, 0, [])), (33, 1, .ireturn, x0)]
theorem de_140 : (op_140.all fun e => decide (decode prog_14_method_14_code e.1 = .ok (e.2.2.1, e.2.1))) = true := by decide +kernel
/-- CutsOrFastModel.reached(III)I -/
def op_141 : List (Nat × OpE) := [(0, 1, .iconst 1, (1, 0, 0, 0, [])), (1, 1, .iload_n 1, x0), (2, 1, .ishl, x0), (3, 2, .istore 4, x0), (5, 1, .iconst 1, (1, 0, 0, 0, [])), (6, 2, .istore 5, x0), (8, 2, .iload 5, x0), (10, 3, .ifCond .eq 118, (0, 0, 128, 0, [])), (13, 2, .iload 4, x0), (15, 2, .istore 6, x0), (17, 1, .iconst 0, x0), (18, 2, .istore 7, x0), (20, 2, .iload 7, x0), (22, 1, .iload_n 3, x0), (23, 3, .if_icmp .ge 88, (0, 0, 111, 0, [])), (26, 2, .iload 4, x0), (28, 1, .aload_n 0, x0), (29, 3, .getfield 7, (0, 0, 4, 12, [])), (32, 2, .iload 7, x0), (34, 1, .iaload, x0), (35, 3, .invokestatic 141, (0, 0, 130, 2, [])), (38, 3, .ifCond .ne 18, (0, 0, 56, 0, [])), (41, 2, .iload 4, x0), (43, 1, .aload_n 0, x0), (44, 3, .getfield 13, (0, 0, 5, 12, [])), (47, 2, .iload 7, x0), (49, 1, .iaload, x0), (50, 3, .invokestatic 141, (0, 0, 130, 2, [])), (53, 3, .ifCond .eq 7, (0, 0, 60, 0, [])), (56, 1, .iconst 1, (1, 0, 0, 0, [])), (57, 3, .goto 4, (0, 0, 61, 0, [])), (60, 1, .iconst 0, x0), (61, 2, .istore 8, x0), (63, 2, .iload 4, x0), (65, 1, .iload_n 2, x0), (66, 2, .iload 7, x0), (68, 3, .invokestatic 141, (0, 0, 130, 2, [])), (71, 3, .ifCond .eq 30, (0, 0, 101, 0, [])), (74, 2, .iload 8, x0), (76, 3, .ifCond .eq 25, (0, 0, 101, 0, [])), (79, 1, .iconst 1, (1, 0, 0, 0, [])), (80, 1, .aload_n 0, x0), (81, 3, .getfield 7, (0, 0, 4, 12, [])), (84, 2, .iload 7, x0), (86, 1, .iaload, x0), (87, 1, .ishl, x0), (88, 1, .iconst 1, (1, 0, 0, 0, [])), (89, 1, .aload_n 0, x0), (90, 3, .getfield 13, (0, 0, 5, 12, [])), (93, 2, .iload 7, x0), (95, 1, .iaload, x0), (96, 1, .ishl, x0), (97, 1, .ior, x0), (98, 3, .goto 4, (0, 0, 102, 0, [])), (101, 1, .iconst 0, x0), (102, 1, .ior, x0), (103, 2, .istore 4, x0), (105, 3, .iinc 7 1, (1, 0, 7, 0, [])), (108, 3, .goto (-88), (0, 0, 20, 0, [])), (111, 2, .iload 4, x0), (113, 2, .iload 6, x0), (115, 3, .if_icmp .eq 7, (0, 0, 122, 0, [])), (118, 1, .iconst 1, (1, 0, 0, 0, [])), (119, 3, .goto 4, (0, 0, 123, 0, [])), (122, 1, .iconst 0, x0), (123, 2, .istore 5, x0), (125, 3, .goto (-117), (0, 0, 8, 0, [])), (128, 2, .iload 4, x0), (130, 1, .ireturn, x0)]
theorem de_141 : (op_141.all fun e => decide (decode prog_14_method_15_code e.1 = .ok (e.2.2.1, e.2.1))) = true := by decide +kernel
/-- CutsOrFastModel.joins(II)Z -/
def op_142 : List (Nat × OpE) := [(0, 1, .aload_n 0, x0), (1, 1, .aload_n 0, x0), (2, 3, .getfield 119, (0, 0, 2, 12, [])), (5, 1, .iload_n 1, x0), (6, 1, .iload_n 2, x0), (7, 3, .invokevirtual 145, (0, 0, 0, 3, [(12, 141)])), (10, 1, .aload_n 0, x0), (11, 3, .getfield 122, (0, 0, 3, 12, [])), (14, 3, .invokestatic 141, (0, 0, 130, 2, [])), (17, 1, .ireturn, x0)]
theorem de_142 : (op_142.all fun e => decide (decode prog_14_method_16_code e.1 = .ok (e.2.2.1, e.2.1))) = true := by decide +kernel
/-- CutsOrFastModel.setOf(I)I -/
def op_143 : List (Nat × OpE) := [(0, 1, .iconst 0, x0), (1, 1, .istore_n 2, x0), (2, 1, .iconst 0, x0), (3, 1, .istore_n 3, x0), (4, 1, .iload_n 3, x0), (5, 1, .aload_n 0, x0), (6, 3, .getfield 116, (0, 0, 0, 12, [])), (9, 3, .if_icmp .ge 29, (0, 0, 38, 0, [])), (12, 1, .iload_n 2, x0), (13, 1, .aload_n 0, x0), (14, 3, .getfield 16, (0, 0, 6, 12, [])), (17, 1, .iload_n 3, x0), (18, 1, .iaload, x0), (19, 1, .iload_n 1, x0), (20, 3, .if_icmp .ne 9, (0, 0, 29, 0, [])), (23, 1, .iconst 1, (1, 0, 0, 0, [])), (24, 1, .iload_n 3, x0), (25, 1, .ishl, x0), (26, 3, .goto 4, (0, 0, 30, 0, [])), (29, 1, .iconst 0, x0), (30, 1, .ior, x0), (31, 1, .istore_n 2, x0), (32, 3, .iinc 3 1, (1, 0, 3, 0, [])), (35, 3, .goto (-31), (0, 0, 4, 0, [])), (38, 1, .iload_n 2, x0), (39, 1, .ireturn, x0)]
theorem de_143 : (op_143.all fun e => decide (decode prog_14_method_17_code e.1 = .ok (e.2.2.1, e.2.1))) = true := by decide +kernel
/-- CutsOrFastModel.statusNow()I -/
def op_144 : List (Nat × OpE) := [(0, 1, .aload_n 0, x0), (1, 1, .aload_n 0, x0), (2, 1, .iconst 1, (1, 0, 0, 0, [])), (3, 3, .invokevirtual 149, (0, 0, 0, 1, [(12, 143)])), (6, 1, .aload_n 0, x0), (7, 3, .getfield 116, (0, 0, 0, 12, [])), (10, 3, .invokevirtual 153, (0, 0, 0, 2, [(12, 142)])), (13, 3, .ifCond .eq 5, (0, 0, 18, 0, [])), (16, 1, .iconst 1, (1, 0, 0, 0, [])), (17, 1, .ireturn, x0), (18, 1, .aload_n 0, x0), (19, 1, .aload_n 0, x0), (20, 1, .iconst 1, (1, 0, 0, 0, [])), (21, 3, .invokevirtual 149, (0, 0, 0, 1, [(12, 143)])), (24, 1, .aload_n 0, x0), (25, 1, .iconst 0, x0), (26, 3, .invokevirtual 149, (0, 0, 0, 1, [(12, 143)])), (29, 1, .ior, x0), (30, 1, .aload_n 0, x0), (31, 3, .getfield 116, (0, 0, 0, 12, [])), (34, 3, .invokevirtual 153, (0, 0, 0, 2, [(12, 142)])), (37, 3, .ifCond .eq 7, (0, 0, 44, 0, [])), (40, 1, .iconst 0, x0), (41, 3, .goto 4, (0, 0, 45, 0, [])), (44, 1, .iconst 2, (2, 0, 0, 0, [])), (45, 1, .ireturn, x0)]
theorem de_144 : (op_144.all fun e => decide (decode prog_14_method_18_code e.1 = .ok (e.2.2.1, e.2.1))) = true := by decide +kernel
/-- CutsOrFastModel.status()I -/
def op_145 : List (Nat × OpE) := [(0, 1, .aload_n 0, x0), (1, 3, .getfield 116, (0, 0, 0, 12, [])), (4, 3, .ifCond .ne 8, (0, 0, 12, 0, [])), (7, 2, .bipush (-103), ((-103), 0, 0, 0, [])), (9, 3, .goto 7, (0, 0, 16, 0, [])), (12, 1, .aload_n 0, x0), (13, 3, .invokevirtual 156, (0, 0, 0, 0, [(12, 144)])), (16, 1, .ireturn, x0)]
theorem de_145 : (op_145.all fun e => decide (decode prog_14_method_19_code e.1 = .ok (e.2.2.1, e.2.1))) = true := by decide +kernel
/-- CutsOrFastModel.layOpens(I)V -/
def op_146 : List (Nat × OpE) := [(0, 1, .aload_n 0, x0), (1, 1, .iconst 0, x0), (2, 3, .putfield 160, (0, 0, 32, 12, [])), (5, 1, .aload_n 0, x0), (6, 1, .iconst 0, x0), (7, 3, .putfield 163, (0, 0, 35, 12, [])), (10, 1, .iconst 0, x0), (11, 1, .istore_n 2, x0), (12, 1, .iload_n 2, x0), (13, 1, .iload_n 1, x0), (14, 3, .if_icmp .ge 64, (0, 0, 78, 0, [])), (17, 1, .aload_n 0, x0), (18, 3, .getfield 16, (0, 0, 6, 12, [])), (21, 1, .iload_n 2, x0), (22, 1, .iaload, x0), (23, 3, .ifCond .ne 23, (0, 0, 46, 0, [])), (26, 1, .aload_n 0, x0), (27, 3, .getfield 54, (0, 0, 33, 12, [])), (30, 1, .aload_n 0, x0), (31, 3, .getfield 160, (0, 0, 32, 12, [])), (34, 1, .iload_n 2, x0), (35, 1, .iastore, x0), (36, 1, .aload_n 0, x0), (37, 1, .dup, x0), (38, 3, .getfield 160, (0, 0, 32, 12, [])), (41, 1, .iconst 1, (1, 0, 0, 0, [])), (42, 1, .iadd, x0), (43, 3, .putfield 160, (0, 0, 32, 12, [])), (46, 1, .aload_n 0, x0), (47, 1, .dup, x0), (48, 3, .getfield 163, (0, 0, 35, 12, [])), (51, 1, .aload_n 0, x0), (52, 3, .getfield 16, (0, 0, 6, 12, [])), (55, 1, .iload_n 2, x0), (56, 1, .iaload, x0), (57, 1, .iconst 1, (1, 0, 0, 0, [])), (58, 3, .if_icmp .ne 9, (0, 0, 67, 0, [])), (61, 1, .iconst 1, (1, 0, 0, 0, [])), (62, 1, .iload_n 2, x0), (63, 1, .ishl, x0), (64, 3, .goto 4, (0, 0, 68, 0, [])), (67, 1, .iconst 0, x0), (68, 1, .ior, x0), (69, 3, .putfield 163, (0, 0, 35, 12, [])), (72, 3, .iinc 2 1, (1, 0, 2, 0, [])), (75, 3, .goto (-63), (0, 0, 12, 0, [])), (78, 1, .aload_n 0, x0), (79, 3, .getfield 57, (0, 0, 34, 12, [])), (82, 1, .iconst 0, x0), (83, 1, .iconst 1, (1, 0, 0, 0, [])), (84, 1, .iastore, x0), (85, 1, .iconst 0, x0), (86, 1, .istore_n 2, x0), (87, 1, .iload_n 2, x0), (88, 1, .aload_n 0, x0), (89, 3, .getfield 160, (0, 0, 32, 12, [])), (92, 3, .if_icmp .ge 25, (0, 0, 117, 0, [])), (95, 1, .aload_n 0, x0), (96, 3, .getfield 57, (0, 0, 34, 12, [])), (99, 1, .iload_n 2, x0), (100, 1, .iconst 1, (1, 0, 0, 0, [])), (101, 1, .iadd, x0), (102, 1, .iconst 3, (3, 0, 0, 0, [])), (103, 1, .aload_n 0, x0), (104, 3, .getfield 57, (0, 0, 34, 12, [])), (107, 1, .iload_n 2, x0), (108, 1, .iaload, x0), (109, 1, .imul, x0), (110, 1, .iastore, x0), (111, 3, .iinc 2 1, (1, 0, 2, 0, [])), (114, 3, .goto (-27), (0, 0, 87, 0, [])), (117, 1, .iconst 0, x0), (118, 1, .istore_n 2, x0), (119, 1, .iload_n 2, x0), (120, 1, .iconst 1, (1, 0, 0, 0, [])), (121, 1, .iload_n 1, x0), (122, 1, .ishl, x0), (123, 3, .if_icmp .ge 21, (0, 0, 144, 0, [])), (126, 1, .aload_n 0, x0), (127, 3, .getfield 50, (0, 0, 31, 12, [])), (130, 1, .iload_n 2, x0), (131, 1, .aload_n 0, x0), (132, 1, .iload_n 2, x0), (133, 1, .iload_n 1, x0), (134, 3, .invokevirtual 153, (0, 0, 0, 2, [(12, 142)])), (137, 1, .bastore, x0), (138, 3, .iinc 2 1, (1, 0, 2, 0, [])), (141, 3, .goto (-22), (0, 0, 119, 0, [])), (144, 1, .return_, x0)]
theorem de_146 : (op_146.all fun e => decide (decode prog_14_method_20_code e.1 = .ok (e.2.2.1, e.2.1))) = true := by decide +kernel
/-- CutsOrFastModel.readCode(I)V -/
def op_147 : List (Nat × OpE) := [(0, 1, .aload_n 0, x0), (1, 1, .aload_n 0, x0), (2, 3, .getfield 163, (0, 0, 35, 12, [])), (5, 3, .putfield 166, (0, 0, 37, 12, [])), (8, 1, .aload_n 0, x0), (9, 1, .aload_n 0, x0), (10, 3, .getfield 163, (0, 0, 35, 12, [])), (13, 3, .putfield 169, (0, 0, 38, 12, [])), (16, 1, .aload_n 0, x0), (17, 1, .iconst 0, x0), (18, 3, .putfield 172, (0, 0, 39, 12, [])), (21, 1, .iload_n 1, x0), (22, 1, .istore_n 2, x0), (23, 1, .iconst 0, x0), (24, 1, .istore_n 3, x0), (25, 1, .iload_n 3, x0), (26, 1, .aload_n 0, x0), (27, 3, .getfield 160, (0, 0, 32, 12, [])), (30, 3, .if_icmp .ge 91, (0, 0, 121, 0, [])), (33, 1, .iload_n 2, x0), (34, 1, .iconst 3, (3, 0, 0, 0, [])), (35, 1, .irem, x0), (36, 2, .istore 4, x0), (38, 1, .iload_n 2, x0), (39, 1, .iconst 3, (3, 0, 0, 0, [])), (40, 1, .idiv, x0), (41, 1, .istore_n 2, x0), (42, 1, .aload_n 0, x0), (43, 1, .dup, x0), (44, 3, .getfield 166, (0, 0, 37, 12, [])), (47, 2, .iload 4, x0), (49, 1, .iconst 1, (1, 0, 0, 0, [])), (50, 3, .if_icmp .ne 14, (0, 0, 64, 0, [])), (53, 1, .iconst 1, (1, 0, 0, 0, [])), (54, 1, .aload_n 0, x0), (55, 3, .getfield 54, (0, 0, 33, 12, [])), (58, 1, .iload_n 3, x0), (59, 1, .iaload, x0), (60, 1, .ishl, x0), (61, 3, .goto 4, (0, 0, 65, 0, [])), (64, 1, .iconst 0, x0), (65, 1, .ior, x0), (66, 3, .putfield 166, (0, 0, 37, 12, [])), (69, 1, .aload_n 0, x0), (70, 1, .dup, x0), (71, 3, .getfield 169, (0, 0, 38, 12, [])), (74, 2, .iload 4, x0), (76, 1, .iconst 2, (2, 0, 0, 0, [])), (77, 3, .if_icmp .ne 7, (0, 0, 84, 0, [])), (80, 1, .iconst 0, x0), (81, 3, .goto 11, (0, 0, 92, 0, [])), (84, 1, .iconst 1, (1, 0, 0, 0, [])), (85, 1, .aload_n 0, x0), (86, 3, .getfield 54, (0, 0, 33, 12, [])), (89, 1, .iload_n 3, x0), (90, 1, .iaload, x0), (91, 1, .ishl, x0), (92, 1, .ior, x0), (93, 3, .putfield 169, (0, 0, 38, 12, [])), (96, 1, .aload_n 0, x0), (97, 1, .dup, x0), (98, 3, .getfield 172, (0, 0, 39, 12, [])), (101, 2, .iload 4, x0), (103, 3, .ifCond .ne 7, (0, 0, 110, 0, [])), (106, 1, .iconst 1, (1, 0, 0, 0, [])), (107, 3, .goto 4, (0, 0, 111, 0, [])), (110, 1, .iconst 0, x0), (111, 1, .iadd, x0), (112, 3, .putfield 172, (0, 0, 39, 12, [])), (115, 3, .iinc 3 1, (1, 0, 3, 0, [])), (118, 3, .goto (-93), (0, 0, 25, 0, [])), (121, 1, .return_, x0)]
theorem de_147 : (op_147.all fun e => decide (decode prog_14_method_21_code e.1 = .ok (e.2.2.1, e.2.1))) = true := by decide +kernel
/-- CutsOrFastModel.figure(II)I -/
def op_148 : List (Nat × OpE) := [(0, 1, .iload_n 0, x0), (1, 1, .iload_n 1, x0), (2, 1, .idiv, x0), (3, 1, .iconst 3, (3, 0, 0, 0, [])), (4, 1, .irem, x0), (5, 1, .ireturn, x0)]
theorem de_148 : (op_148.all fun e => decide (decode prog_14_method_22_code e.1 = .ok (e.2.2.1, e.2.1))) = true := by decide +kernel
/-- CutsOrFastModel.hasBy(II)Z -/
def op_149 : List (Nat × OpE) := [(0, 1, .iconst 0, x0), (1, 1, .istore_n 3, x0), (2, 1, .iconst 1, (1, 0, 0, 0, [])), (3, 2, .istore 4, x0), (5, 1, .iconst 0, x0), (6, 2, .istore 5, x0), (8, 2, .iload 5, x0), (10, 1, .aload_n 0, x0), (11, 3, .getfield 160, (0, 0, 32, 12, [])), (14, 3, .if_icmp .ge 87, (0, 0, 101, 0, [])), (17, 1, .iload_n 1, x0), (18, 1, .aload_n 0, x0), (19, 3, .getfield 57, (0, 0, 34, 12, [])), (22, 2, .iload 5, x0), (24, 1, .iaload, x0), (25, 3, .invokestatic 175, (0, 0, 148, 2, [])), (28, 3, .ifCond .ne 67, (0, 0, 95, 0, [])), (31, 1, .aload_n 0, x0), (32, 3, .getfield 61, (0, 0, 36, 12, [])), (35, 1, .iconst 2, (2, 0, 0, 0, [])), (36, 1, .iload_n 1, x0), (37, 1, .iload_n 2, x0), (38, 3, .ifCond .ne 7, (0, 0, 45, 0, [])), (41, 1, .iconst 1, (1, 0, 0, 0, [])), (42, 3, .goto 4, (0, 0, 46, 0, [])), (45, 1, .iconst 2, (2, 0, 0, 0, [])), (46, 1, .aload_n 0, x0), (47, 3, .getfield 57, (0, 0, 34, 12, [])), (50, 2, .iload 5, x0), (52, 1, .iaload, x0), (53, 1, .imul, x0), (54, 1, .iadd, x0), (55, 1, .imul, x0), (56, 1, .iconst 1, (1, 0, 0, 0, [])), (57, 1, .iadd, x0), (58, 1, .iload_n 2, x0), (59, 1, .isub, x0), (60, 1, .baload, x0), (61, 2, .istore 6, x0), (63, 1, .iload_n 3, x0), (64, 3, .ifCond .ne 8, (0, 0, 72, 0, [])), (67, 2, .iload 6, x0), (69, 3, .ifCond .eq 7, (0, 0, 76, 0, [])), (72, 1, .iconst 1, (1, 0, 0, 0, [])), (73, 3, .goto 4, (0, 0, 77, 0, [])), (76, 1, .iconst 0, x0), (77, 1, .istore_n 3, x0), (78, 2, .iload 4, x0), (80, 3, .ifCond .eq 12, (0, 0, 92, 0, [])), (83, 2, .iload 6, x0), (85, 3, .ifCond .eq 7, (0, 0, 92, 0, [])), (88, 1, .iconst 1, (1, 0, 0, 0, [])), (89, 3, .goto 4, (0, 0, 93, 0, [])), (92, 1, .iconst 0, x0), (93, 2, .istore 4, x0), (95, 3, .iinc 5 1, (1, 0, 5, 0, [])), (98, 3, .goto (-90), (0, 0, 8, 0, [])), (101, 1, .iload_n 2, x0), (102, 3, .ifCond .ne 7, (0, 0, 109, 0, [])), (105, 1, .iload_n 3, x0), (106, 3, .goto 5, (0, 0, 111, 0, [])), (109, 2, .iload 4, x0), (111, 1, .ireturn, x0)]
theorem de_149 : (op_149.all fun e => decide (decode prog_14_method_23_code e.1 = .ok (e.2.2.1, e.2.1))) = true := by decide +kernel
/-- CutsOrFastModel.laySolved(I)V -/
def op_150 : List (Nat × OpE) := [(0, 1, .aload_n 0, x0), (1, 1, .iload_n 1, x0), (2, 3, .invokevirtual 178, (0, 0, 0, 1, [(12, 146)])), (5, 1, .aload_n 0, x0), (6, 3, .getfield 57, (0, 0, 34, 12, [])), (9, 1, .aload_n 0, x0), (10, 3, .getfield 160, (0, 0, 32, 12, [])), (13, 1, .iaload, x0), (14, 1, .iconst 1, (1, 0, 0, 0, [])), (15, 1, .isub, x0), (16, 1, .istore_n 2, x0), (17, 1, .iload_n 2, x0), (18, 3, .ifCond .lt 93, (0, 0, 111, 0, [])), (21, 1, .aload_n 0, x0), (22, 1, .iload_n 2, x0), (23, 3, .invokevirtual 182, (0, 0, 0, 1, [(12, 147)])), (26, 1, .aload_n 0, x0), (27, 3, .getfield 50, (0, 0, 31, 12, [])), (30, 1, .aload_n 0, x0), (31, 3, .getfield 166, (0, 0, 37, 12, [])), (34, 1, .baload, x0), (35, 1, .istore_n 3, x0), (36, 1, .aload_n 0, x0), (37, 3, .getfield 50, (0, 0, 31, 12, [])), (40, 1, .aload_n 0, x0), (41, 3, .getfield 169, (0, 0, 38, 12, [])), (44, 1, .baload, x0), (45, 3, .ifCond .ne 7, (0, 0, 52, 0, [])), (48, 1, .iconst 1, (1, 0, 0, 0, [])), (49, 3, .goto 4, (0, 0, 53, 0, [])), (52, 1, .iconst 0, x0), (53, 2, .istore 4, x0), (55, 1, .iconst 0, x0), (56, 2, .istore 5, x0), (58, 2, .iload 5, x0), (60, 1, .iconst 2, (2, 0, 0, 0, [])), (61, 3, .if_icmp .ge 44, (0, 0, 105, 0, [])), (64, 1, .aload_n 0, x0), (65, 3, .getfield 61, (0, 0, 36, 12, [])), (68, 1, .iconst 2, (2, 0, 0, 0, [])), (69, 1, .iload_n 2, x0), (70, 1, .imul, x0), (71, 2, .iload 5, x0), (73, 1, .iadd, x0), (74, 1, .iload_n 3, x0), (75, 3, .ifCond .ne 18, (0, 0, 93, 0, [])), (78, 2, .iload 4, x0), (80, 3, .ifCond .ne 17, (0, 0, 97, 0, [])), (83, 1, .aload_n 0, x0), (84, 1, .iload_n 2, x0), (85, 2, .iload 5, x0), (87, 3, .invokevirtual 185, (0, 0, 0, 2, [(12, 149)])), (90, 3, .ifCond .eq 7, (0, 0, 97, 0, [])), (93, 1, .iconst 1, (1, 0, 0, 0, [])), (94, 3, .goto 4, (0, 0, 98, 0, [])), (97, 1, .iconst 0, x0), (98, 1, .bastore, x0), (99, 3, .iinc 5 1, (1, 0, 5, 0, [])), (102, 3, .goto (-44), (0, 0, 58, 0, [])), (105, 3, .iinc 2 (-1), ((-1), 0, 2, 0, [])), (108, 3, .goto (-91), (0, 0, 17, 0, [])), (111, 1, .return_, x0)]
theorem de_150 : (op_150.all fun e => decide (decode prog_14_method_24_code e.1 = .ok (e.2.2.1, e.2.1))) = true := by decide +kernel
/-- CutsOrFastModel.isSide(I)Z -/
def op_151 : List (Nat × OpE) := [(0, 1, .iload_n 0, x0), (1, 1, .iconst 0, x0), (2, 1, .iconst 1, (1, 0, 0, 0, [])), (3, 3, .invokestatic 86, (0, 0, 129, 3, [])), (6, 1, .ireturn, x0)]
theorem de_151 : (op_151.all fun e => decide (decode prog_14_method_25_code e.1 = .ok (e.2.2.1, e.2.1))) = true := by decide +kernel
/-- CutsOrFastModel.whose(I)I -/
def op_152 : List (Nat × OpE) := [(0, 1, .iload_n 1, x0), (1, 3, .invokestatic 188, (0, 0, 151, 1, [])), (4, 3, .ifCond .ne 6, (0, 0, 10, 0, [])), (7, 2, .bipush (-101), ((-101), 0, 0, 0, [])), (9, 1, .ireturn, x0), (10, 1, .aload_n 0, x0), (11, 3, .getfield 116, (0, 0, 0, 12, [])), (14, 3, .ifCond .ne 6, (0, 0, 20, 0, [])), (17, 2, .bipush (-103), ((-103), 0, 0, 0, [])), (19, 1, .ireturn, x0), (20, 1, .aload_n 0, x0), (21, 1, .aload_n 0, x0), (22, 3, .getfield 116, (0, 0, 0, 12, [])), (25, 3, .invokevirtual 191, (0, 0, 0, 1, [(12, 150)])), (28, 1, .aload_n 0, x0), (29, 3, .getfield 61, (0, 0, 36, 12, [])), (32, 1, .iload_n 1, x0), (33, 1, .baload, x0), (34, 3, .ifCond .eq 7, (0, 0, 41, 0, [])), (37, 1, .iconst 0, x0), (38, 3, .goto 4, (0, 0, 42, 0, [])), (41, 1, .iconst 1, (1, 0, 0, 0, [])), (42, 1, .ireturn, x0)]
theorem de_152 : (op_152.all fun e => decide (decode prog_14_method_26_code e.1 = .ok (e.2.2.1, e.2.1))) = true := by decide +kernel
/-- CutsOrFastModel.byFrom(II)I -/
def op_153 : List (Nat × OpE) := [(0, 1, .iconst 0, x0), (1, 1, .istore_n 3, x0), (2, 1, .iload_n 3, x0), (3, 1, .aload_n 0, x0), (4, 3, .getfield 160, (0, 0, 32, 12, [])), (7, 3, .if_icmp .ge 74, (0, 0, 81, 0, [])), (10, 1, .iload_n 1, x0), (11, 1, .aload_n 0, x0), (12, 3, .getfield 57, (0, 0, 34, 12, [])), (15, 1, .iload_n 3, x0), (16, 1, .iaload, x0), (17, 3, .invokestatic 175, (0, 0, 148, 2, [])), (20, 3, .ifCond .ne 55, (0, 0, 75, 0, [])), (23, 1, .aload_n 0, x0), (24, 3, .getfield 61, (0, 0, 36, 12, [])), (27, 1, .iconst 2, (2, 0, 0, 0, [])), (28, 1, .iload_n 1, x0), (29, 1, .iload_n 2, x0), (30, 3, .ifCond .ne 7, (0, 0, 37, 0, [])), (33, 1, .iconst 1, (1, 0, 0, 0, [])), (34, 3, .goto 4, (0, 0, 38, 0, [])), (37, 1, .iconst 2, (2, 0, 0, 0, [])), (38, 1, .aload_n 0, x0), (39, 3, .getfield 57, (0, 0, 34, 12, [])), (42, 1, .iload_n 3, x0), (43, 1, .iaload, x0), (44, 1, .imul, x0), (45, 1, .iadd, x0), (46, 1, .imul, x0), (47, 1, .iconst 1, (1, 0, 0, 0, [])), (48, 1, .iadd, x0), (49, 1, .iload_n 2, x0), (50, 1, .isub, x0), (51, 1, .baload, x0), (52, 2, .istore 4, x0), (54, 2, .iload 4, x0), (56, 1, .iload_n 2, x0), (57, 3, .ifCond .ne 7, (0, 0, 64, 0, [])), (60, 1, .iconst 1, (1, 0, 0, 0, [])), (61, 3, .goto 4, (0, 0, 65, 0, [])), (64, 1, .iconst 0, x0), (65, 3, .if_icmp .ne 10, (0, 0, 75, 0, [])), (68, 1, .aload_n 0, x0), (69, 3, .getfield 54, (0, 0, 33, 12, [])), (72, 1, .iload_n 3, x0), (73, 1, .iaload, x0), (74, 1, .ireturn, x0), (75, 3, .iinc 3 1, (1, 0, 3, 0, [])), (78, 3, .goto (-76), (0, 0, 2, 0, [])), (81, 1, .iconst (-1), ((-1), 0, 0, 0, [])), (82, 1, .ireturn, x0)]
theorem de_153 : (op_153.all fun e => decide (decode prog_14_method_27_code e.1 = .ok (e.2.2.1, e.2.1))) = true := by decide +kernel
/-- CutsOrFastModel.byNow(I)I -/
def op_154 : List (Nat × OpE) := [(0, 1, .aload_n 0, x0), (1, 3, .invokevirtual 156, (0, 0, 0, 0, [(12, 144)])), (4, 3, .ifCond .eq 5, (0, 0, 9, 0, [])), (7, 1, .iconst (-1), ((-1), 0, 0, 0, [])), (8, 1, .ireturn, x0), (9, 1, .aload_n 0, x0), (10, 1, .aload_n 0, x0), (11, 3, .getfield 116, (0, 0, 0, 12, [])), (14, 3, .invokevirtual 191, (0, 0, 0, 1, [(12, 150)])), (17, 1, .aload_n 0, x0), (18, 1, .iconst 0, x0), (19, 1, .iload_n 1, x0), (20, 3, .invokevirtual 194, (0, 0, 0, 2, [(12, 153)])), (23, 1, .ireturn, x0)]
theorem de_154 : (op_154.all fun e => decide (decode prog_14_method_28_code e.1 = .ok (e.2.2.1, e.2.1))) = true := by decide +kernel
/-- CutsOrFastModel.by(I)I -/
def op_155 : List (Nat × OpE) := [(0, 1, .iload_n 1, x0), (1, 3, .invokestatic 188, (0, 0, 151, 1, [])), (4, 3, .ifCond .ne 6, (0, 0, 10, 0, [])), (7, 2, .bipush (-101), ((-101), 0, 0, 0, [])), (9, 1, .ireturn, x0), (10, 1, .aload_n 0, x0), (11, 3, .getfield 116, (0, 0, 0, 12, [])), (14, 3, .ifCond .ne 8, (0, 0, 22, 0, [])), (17, 2, .bipush (-103), ((-103), 0, 0, 0, [])), (19, 3, .goto 8, (0, 0, 27, 0, [])), (22, 1, .aload_n 0, x0), (23, 1, .iload_n 1, x0), (24, 3, .invokevirtual 197, (0, 0, 0, 1, [(12, 154)])), (27, 1, .ireturn, x0)]
theorem de_155 : (op_155.all fun e => decide (decode prog_14_method_29_code e.1 = .ok (e.2.2.1, e.2.1))) = true := by decide +kernel
/-- CutsOrFastModel.begin(I)I -/
def op_156 : List (Nat × OpE) := [(0, 1, .iload_n 1, x0), (1, 3, .invokestatic 188, (0, 0, 151, 1, [])), (4, 3, .ifCond .ne 6, (0, 0, 10, 0, [])), (7, 2, .bipush (-101), ((-101), 0, 0, 0, [])), (9, 1, .ireturn, x0), (10, 1, .aload_n 0, x0), (11, 3, .getfield 116, (0, 0, 0, 12, [])), (14, 3, .ifCond .eq 10, (0, 0, 24, 0, [])), (17, 1, .aload_n 0, x0), (18, 3, .getfield 128, (0, 0, 9, 12, [])), (21, 3, .ifCond .le 6, (0, 0, 27, 0, [])), (24, 2, .bipush (-103), ((-103), 0, 0, 0, [])), (26, 1, .ireturn, x0), (27, 1, .aload_n 0, x0), (28, 3, .getfield 125, (0, 0, 8, 12, [])), (31, 1, .istore_n 2, x0), (32, 1, .aload_n 0, x0), (33, 1, .iload_n 1, x0), (34, 3, .putfield 125, (0, 0, 8, 12, [])), (37, 1, .iload_n 2, x0), (38, 1, .ireturn, x0)]
theorem de_156 : (op_156.all fun e => decide (decode prog_14_method_30_code e.1 = .ok (e.2.2.1, e.2.1))) = true := by decide +kernel
/-- CutsOrFastModel.take(I)I -/
def op_157 : List (Nat × OpE) := [(0, 1, .aload_n 0, x0), (1, 1, .iload_n 1, x0), (2, 3, .invokevirtual 134, (0, 0, 0, 1, [(12, 138)])), (5, 3, .ifCond .ne 6, (0, 0, 11, 0, [])), (8, 2, .bipush (-101), ((-101), 0, 0, 0, [])), (10, 1, .ireturn, x0), (11, 1, .aload_n 0, x0), (12, 3, .invokevirtual 156, (0, 0, 0, 0, [(12, 144)])), (15, 3, .ifCond .ne 12, (0, 0, 27, 0, [])), (18, 1, .aload_n 0, x0), (19, 3, .getfield 16, (0, 0, 6, 12, [])), (22, 1, .iload_n 1, x0), (23, 1, .iaload, x0), (24, 3, .ifCond .eq 6, (0, 0, 30, 0, [])), (27, 2, .bipush (-103), ((-103), 0, 0, 0, [])), (29, 1, .ireturn, x0), (30, 1, .aload_n 0, x0), (31, 3, .getfield 16, (0, 0, 6, 12, [])), (34, 1, .iload_n 1, x0), (35, 1, .aload_n 0, x0), (36, 3, .getfield 125, (0, 0, 8, 12, [])), (39, 3, .ifCond .ne 7, (0, 0, 46, 0, [])), (42, 1, .iconst 1, (1, 0, 0, 0, [])), (43, 3, .goto 4, (0, 0, 47, 0, [])), (46, 1, .iconst 2, (2, 0, 0, 0, [])), (47, 1, .iastore, x0), (48, 1, .aload_n 0, x0), (49, 3, .getfield 22, (0, 0, 10, 12, [])), (52, 1, .aload_n 0, x0), (53, 3, .getfield 128, (0, 0, 9, 12, [])), (56, 1, .iload_n 1, x0), (57, 1, .iastore, x0), (58, 1, .aload_n 0, x0), (59, 1, .dup, x0), (60, 3, .getfield 128, (0, 0, 9, 12, [])), (63, 1, .iconst 1, (1, 0, 0, 0, [])), (64, 1, .iadd, x0), (65, 3, .putfield 128, (0, 0, 9, 12, [])), (68, 1, .aload_n 0, x0), (69, 1, .iconst 1, (1, 0, 0, 0, [])), (70, 1, .aload_n 0, x0), (71, 3, .getfield 125, (0, 0, 8, 12, [])), (74, 1, .isub, x0), (75, 3, .putfield 125, (0, 0, 8, 12, [])), (78, 1, .aload_n 0, x0), (79, 3, .getfield 128, (0, 0, 9, 12, [])), (82, 1, .ireturn, x0)]
theorem de_157 : (op_157.all fun e => decide (decode prog_14_method_31_code e.1 = .ok (e.2.2.1, e.2.1))) = true := by decide +kernel
/-- CutsOrFastModel.back()I -/
def op_158 : List (Nat × OpE) := [(0, 1, .aload_n 0, x0), (1, 3, .getfield 116, (0, 0, 0, 12, [])), (4, 3, .ifCond .eq 10, (0, 0, 14, 0, [])), (7, 1, .aload_n 0, x0), (8, 3, .getfield 128, (0, 0, 9, 12, [])), (11, 3, .ifCond .ne 6, (0, 0, 17, 0, [])), (14, 2, .bipush (-103), ((-103), 0, 0, 0, [])), (16, 1, .ireturn, x0), (17, 1, .aload_n 0, x0), (18, 1, .dup, x0), (19, 3, .getfield 128, (0, 0, 9, 12, [])), (22, 1, .iconst 1, (1, 0, 0, 0, [])), (23, 1, .isub, x0), (24, 3, .putfield 128, (0, 0, 9, 12, [])), (27, 1, .aload_n 0, x0), (28, 3, .getfield 16, (0, 0, 6, 12, [])), (31, 1, .aload_n 0, x0), (32, 3, .getfield 22, (0, 0, 10, 12, [])), (35, 1, .aload_n 0, x0), (36, 3, .getfield 128, (0, 0, 9, 12, [])), (39, 1, .iaload, x0), (40, 1, .iconst 0, x0), (41, 1, .iastore, x0), (42, 1, .aload_n 0, x0), (43, 1, .iconst 1, (1, 0, 0, 0, [])), (44, 1, .aload_n 0, x0), (45, 3, .getfield 125, (0, 0, 8, 12, [])), (48, 1, .isub, x0), (49, 3, .putfield 125, (0, 0, 8, 12, [])), (52, 1, .aload_n 0, x0), (53, 3, .getfield 128, (0, 0, 9, 12, [])), (56, 1, .ireturn, x0)]
theorem de_158 : (op_158.all fun e => decide (decode prog_14_method_32_code e.1 = .ok (e.2.2.1, e.2.1))) = true := by decide +kernel
/-- CutsOrFastModel.answer(I)I -/
def op_159 : List (Nat × OpE) := [(0, 1, .aload_n 0, x0), (1, 1, .iload_n 1, x0), (2, 3, .invokevirtual 134, (0, 0, 0, 1, [(12, 138)])), (5, 3, .ifCond .ne 6, (0, 0, 11, 0, [])), (8, 2, .bipush (-101), ((-101), 0, 0, 0, [])), (10, 1, .ireturn, x0), (11, 1, .aload_n 0, x0), (12, 3, .invokevirtual 156, (0, 0, 0, 0, [(12, 144)])), (15, 3, .ifCond .ne 12, (0, 0, 27, 0, [])), (18, 1, .aload_n 0, x0), (19, 3, .getfield 16, (0, 0, 6, 12, [])), (22, 1, .iload_n 1, x0), (23, 1, .iaload, x0), (24, 3, .ifCond .eq 6, (0, 0, 30, 0, [])), (27, 2, .bipush (-103), ((-103), 0, 0, 0, [])), (29, 1, .ireturn, x0), (30, 1, .aload_n 0, x0), (31, 3, .getfield 16, (0, 0, 6, 12, [])), (34, 1, .iload_n 1, x0), (35, 1, .iconst 2, (2, 0, 0, 0, [])), (36, 1, .iastore, x0), (37, 1, .aload_n 0, x0), (38, 1, .iconst 0, x0), (39, 3, .invokevirtual 197, (0, 0, 0, 1, [(12, 154)])), (42, 1, .istore_n 2, x0), (43, 1, .aload_n 0, x0), (44, 3, .getfield 16, (0, 0, 6, 12, [])), (47, 1, .iload_n 1, x0), (48, 1, .iconst 0, x0), (49, 1, .iastore, x0), (50, 1, .iload_n 2, x0), (51, 1, .ireturn, x0)]
theorem de_159 : (op_159.all fun e => decide (decode prog_14_method_33_code e.1 = .ok (e.2.2.1, e.2.1))) = true := by decide +kernel
/-- CutsOrFastModel.lostNow()I -/
def op_160 : List (Nat × OpE) := [(0, 1, .aload_n 0, x0), (1, 3, .getfield 128, (0, 0, 9, 12, [])), (4, 1, .istore_n 1, x0), (5, 1, .iconst 0, x0), (6, 1, .istore_n 2, x0), (7, 1, .iload_n 2, x0), (8, 1, .iload_n 1, x0), (9, 3, .if_icmp .ge 21, (0, 0, 30, 0, [])), (12, 1, .aload_n 0, x0), (13, 3, .getfield 16, (0, 0, 6, 12, [])), (16, 1, .aload_n 0, x0), (17, 3, .getfield 22, (0, 0, 10, 12, [])), (20, 1, .iload_n 2, x0), (21, 1, .iaload, x0), (22, 1, .iconst 0, x0), (23, 1, .iastore, x0), (24, 3, .iinc 2 1, (1, 0, 2, 0, [])), (27, 3, .goto (-20), (0, 0, 7, 0, [])), (30, 1, .aload_n 0, x0), (31, 1, .aload_n 0, x0), (32, 3, .getfield 116, (0, 0, 0, 12, [])), (35, 3, .invokevirtual 191, (0, 0, 0, 1, [(12, 150)])), (38, 1, .aload_n 0, x0), (39, 3, .getfield 125, (0, 0, 8, 12, [])), (42, 1, .iload_n 1, x0), (43, 1, .iadd, x0), (44, 1, .iconst 2, (2, 0, 0, 0, [])), (45, 1, .irem, x0), (46, 1, .istore_n 2, x0), (47, 1, .iconst 0, x0), (48, 1, .istore_n 3, x0), (49, 1, .iconst (-1), ((-1), 0, 0, 0, [])), (50, 2, .istore 4, x0), (52, 1, .iconst 0, x0), (53, 2, .istore 5, x0), (55, 2, .iload 5, x0), (57, 1, .iload_n 1, x0), (58, 3, .if_icmp .ge 141, (0, 0, 199, 0, [])), (61, 1, .iload_n 2, x0), (62, 2, .iload 5, x0), (64, 1, .iadd, x0), (65, 1, .iconst 2, (2, 0, 0, 0, [])), (66, 1, .irem, x0), (67, 2, .istore 6, x0), (69, 1, .iload_n 3, x0), (70, 2, .iload 6, x0), (72, 3, .ifCond .ne 7, (0, 0, 79, 0, [])), (75, 1, .iconst 1, (1, 0, 0, 0, [])), (76, 3, .goto 4, (0, 0, 80, 0, [])), (79, 1, .iconst 2, (2, 0, 0, 0, [])), (80, 1, .aload_n 0, x0), (81, 3, .getfield 57, (0, 0, 34, 12, [])), (84, 1, .aload_n 0, x0), (85, 1, .aload_n 0, x0), (86, 3, .getfield 22, (0, 0, 10, 12, [])), (89, 2, .iload 5, x0), (91, 1, .iaload, x0), (92, 3, .invokevirtual 200, (0, 0, 0, 1, [(12, 161)])), (95, 1, .iaload, x0), (96, 1, .imul, x0), (97, 1, .iadd, x0), (98, 2, .istore 7, x0), (100, 1, .aload_n 0, x0), (101, 3, .getfield 61, (0, 0, 36, 12, [])), (104, 1, .iconst 2, (2, 0, 0, 0, [])), (105, 1, .iload_n 3, x0), (106, 1, .imul, x0), (107, 2, .iload 6, x0), (109, 1, .iadd, x0), (110, 1, .baload, x0), (111, 2, .iload 6, x0), (113, 3, .ifCond .ne 7, (0, 0, 120, 0, [])), (116, 1, .iconst 1, (1, 0, 0, 0, [])), (117, 3, .goto 4, (0, 0, 121, 0, [])), (120, 1, .iconst 0, x0), (121, 3, .if_icmp .ne 7, (0, 0, 128, 0, [])), (124, 1, .iconst 1, (1, 0, 0, 0, [])), (125, 3, .goto 4, (0, 0, 129, 0, [])), (128, 1, .iconst 0, x0), (129, 2, .istore 8, x0), (131, 1, .aload_n 0, x0), (132, 3, .getfield 61, (0, 0, 36, 12, [])), (135, 1, .iconst 2, (2, 0, 0, 0, [])), (136, 2, .iload 7, x0), (138, 1, .imul, x0), (139, 1, .iconst 1, (1, 0, 0, 0, [])), (140, 1, .iadd, x0), (141, 2, .iload 6, x0), (143, 1, .isub, x0), (144, 1, .baload, x0), (145, 2, .iload 6, x0), (147, 3, .ifCond .ne 7, (0, 0, 154, 0, [])), (150, 1, .iconst 1, (1, 0, 0, 0, [])), (151, 3, .goto 4, (0, 0, 155, 0, [])), (154, 1, .iconst 0, x0), (155, 3, .if_icmp .ne 7, (0, 0, 162, 0, [])), (158, 1, .iconst 1, (1, 0, 0, 0, [])), (159, 3, .goto 4, (0, 0, 163, 0, [])), (162, 1, .iconst 0, x0), (163, 2, .istore 9, x0), (165, 2, .iload 4, x0), (167, 1, .iconst (-1), ((-1), 0, 0, 0, [])), (168, 3, .if_icmp .ne 18, (0, 0, 186, 0, [])), (171, 2, .iload 8, x0), (173, 3, .ifCond .eq 13, (0, 0, 186, 0, [])), (176, 2, .iload 9, x0), (178, 3, .ifCond .ne 8, (0, 0, 186, 0, [])), (181, 2, .iload 5, x0), (183, 3, .goto 5, (0, 0, 188, 0, [])), (186, 2, .iload 4, x0), (188, 2, .istore 4, x0), (190, 2, .iload 7, x0), (192, 1, .istore_n 3, x0), (193, 3, .iinc 5 1, (1, 0, 5, 0, [])), (196, 3, .goto (-141), (0, 0, 55, 0, [])), (199, 1, .iconst 0, x0), (200, 2, .istore 5, x0), (202, 2, .iload 5, x0), (204, 1, .iload_n 1, x0), (205, 3, .if_icmp .ge 35, (0, 0, 240, 0, [])), (208, 1, .aload_n 0, x0), (209, 3, .getfield 16, (0, 0, 6, 12, [])), (212, 1, .aload_n 0, x0), (213, 3, .getfield 22, (0, 0, 10, 12, [])), (216, 2, .iload 5, x0), (218, 1, .iaload, x0), (219, 1, .iload_n 2, x0), (220, 2, .iload 5, x0), (222, 1, .iadd, x0), (223, 1, .iconst 2, (2, 0, 0, 0, [])), (224, 1, .irem, x0), (225, 3, .ifCond .ne 7, (0, 0, 232, 0, [])), (228, 1, .iconst 1, (1, 0, 0, 0, [])), (229, 3, .goto 4, (0, 0, 233, 0, [])), (232, 1, .iconst 2, (2, 0, 0, 0, [])), (233, 1, .iastore, x0), (234, 3, .iinc 5 1, (1, 0, 5, 0, [])), (237, 3, .goto (-35), (0, 0, 202, 0, [])), (240, 2, .iload 4, x0), (242, 1, .ireturn, x0)]
theorem de_160 : (op_160.all fun e => decide (decode prog_14_method_34_code e.1 = .ok (e.2.2.1, e.2.1))) = true := by decide +kernel
/-- CutsOrFastModel.placeOf(I)I -/
def op_161 : List (Nat × OpE) := [(0, 1, .iconst 0, x0), (1, 1, .istore_n 2, x0), (2, 1, .aload_n 0, x0), (3, 3, .getfield 54, (0, 0, 33, 12, [])), (6, 1, .iload_n 2, x0), (7, 1, .iaload, x0), (8, 1, .iload_n 1, x0), (9, 3, .if_icmp .eq 9, (0, 0, 18, 0, [])), (12, 3, .iinc 2 1, (1, 0, 2, 0, [])), (15, 3, .goto (-13), (0, 0, 2, 0, [])), (18, 1, .iload_n 2, x0), (19, 1, .ireturn, x0)]
theorem de_161 : (op_161.all fun e => decide (decode prog_14_method_35_code e.1 = .ok (e.2.2.1, e.2.1))) = true := by decide +kernel
/-- CutsOrFastModel.lost()I -/
def op_162 : List (Nat × OpE) := [(0, 1, .aload_n 0, x0), (1, 3, .getfield 116, (0, 0, 0, 12, [])), (4, 3, .ifCond .ne 8, (0, 0, 12, 0, [])), (7, 2, .bipush (-103), ((-103), 0, 0, 0, [])), (9, 3, .goto 7, (0, 0, 16, 0, [])), (12, 1, .aload_n 0, x0), (13, 3, .invokevirtual 203, (0, 0, 0, 0, [(12, 160)])), (16, 1, .ireturn, x0)]
theorem de_162 : (op_162.all fun e => decide (decode prog_14_method_36_code e.1 = .ok (e.2.2.1, e.2.1))) = true := by decide +kernel
/-- CutsOrFastModel.waysNow()I -/
def op_163 : List (Nat × OpE) := [(0, 1, .iconst 1, (1, 0, 0, 0, [])), (1, 1, .aload_n 0, x0), (2, 3, .getfield 119, (0, 0, 2, 12, [])), (5, 1, .ishl, x0), (6, 1, .iconst 1, (1, 0, 0, 0, [])), (7, 1, .aload_n 0, x0), (8, 3, .getfield 122, (0, 0, 3, 12, [])), (11, 1, .ishl, x0), (12, 1, .ior, x0), (13, 1, .istore_n 1, x0), (14, 1, .iconst 0, x0), (15, 1, .istore_n 2, x0), (16, 1, .iload_n 2, x0), (17, 1, .aload_n 0, x0), (18, 3, .getfield 116, (0, 0, 0, 12, [])), (21, 3, .if_icmp .ge 29, (0, 0, 50, 0, [])), (24, 1, .iload_n 1, x0), (25, 1, .iconst 1, (1, 0, 0, 0, [])), (26, 1, .aload_n 0, x0), (27, 3, .getfield 7, (0, 0, 4, 12, [])), (30, 1, .iload_n 2, x0), (31, 1, .iaload, x0), (32, 1, .ishl, x0), (33, 1, .iconst 1, (1, 0, 0, 0, [])), (34, 1, .aload_n 0, x0), (35, 3, .getfield 13, (0, 0, 5, 12, [])), (38, 1, .iload_n 2, x0), (39, 1, .iaload, x0), (40, 1, .ishl, x0), (41, 1, .ior, x0), (42, 1, .ior, x0), (43, 1, .istore_n 1, x0), (44, 3, .iinc 2 1, (1, 0, 2, 0, [])), (47, 3, .goto (-31), (0, 0, 16, 0, [])), (50, 1, .aload_n 0, x0), (51, 1, .iconst 0, x0), (52, 3, .invokevirtual 149, (0, 0, 0, 1, [(12, 143)])), (55, 1, .aload_n 0, x0), (56, 1, .iconst 1, (1, 0, 0, 0, [])), (57, 3, .invokevirtual 149, (0, 0, 0, 1, [(12, 143)])), (60, 1, .ior, x0), (61, 1, .istore_n 2, x0), (62, 1, .iconst 0, x0), (63, 1, .istore_n 3, x0), (64, 1, .iload_n 3, x0), (65, 1, .iconst 1, (1, 0, 0, 0, [])), (66, 1, .aload_n 0, x0), (67, 3, .getfield 116, (0, 0, 0, 12, [])), (70, 1, .ishl, x0), (71, 3, .if_icmp .ge 83, (0, 0, 154, 0, [])), (74, 1, .iload_n 3, x0), (75, 1, .iload_n 2, x0), (76, 1, .iconst (-1), ((-1), 0, 0, 0, [])), (77, 1, .ixor, x0), (78, 1, .iand, x0), (79, 3, .ifCond .ne 7, (0, 0, 86, 0, [])), (82, 1, .iconst 1, (1, 0, 0, 0, [])), (83, 3, .goto 4, (0, 0, 87, 0, [])), (86, 1, .iconst 0, x0), (87, 2, .istore 4, x0), (89, 1, .iload_n 2, x0), (90, 1, .iload_n 3, x0), (91, 1, .iconst (-1), ((-1), 0, 0, 0, [])), (92, 1, .ixor, x0), (93, 1, .iand, x0), (94, 1, .aload_n 0, x0), (95, 1, .iconst 1, (1, 0, 0, 0, [])), (96, 3, .invokevirtual 149, (0, 0, 0, 1, [(12, 143)])), (99, 1, .ior, x0), (100, 2, .istore 5, x0), (102, 2, .iload 4, x0), (104, 3, .ifCond .eq 44, (0, 0, 148, 0, [])), (107, 1, .aload_n 0, x0), (108, 1, .aload_n 0, x0), (109, 3, .getfield 119, (0, 0, 2, 12, [])), (112, 1, .iload_n 3, x0), (113, 1, .aload_n 0, x0), (114, 3, .getfield 116, (0, 0, 0, 12, [])), (117, 3, .invokevirtual 145, (0, 0, 0, 3, [(12, 141)])), (120, 1, .iload_n 1, x0), (121, 1, .iand, x0), (122, 1, .iload_n 1, x0), (123, 3, .if_icmp .ne 25, (0, 0, 148, 0, [])), (126, 1, .aload_n 0, x0), (127, 1, .aload_n 0, x0), (128, 3, .getfield 119, (0, 0, 2, 12, [])), (131, 2, .iload 5, x0), (133, 1, .aload_n 0, x0), (134, 3, .getfield 116, (0, 0, 0, 12, [])), (137, 3, .invokevirtual 145, (0, 0, 0, 3, [(12, 141)])), (140, 1, .iload_n 1, x0), (141, 1, .iand, x0), (142, 1, .iload_n 1, x0), (143, 3, .if_icmp .ne 5, (0, 0, 148, 0, [])), (146, 1, .iload_n 3, x0), (147, 1, .ireturn, x0), (148, 3, .iinc 3 1, (1, 0, 3, 0, [])), (151, 3, .goto (-87), (0, 0, 64, 0, [])), (154, 1, .iconst (-1), ((-1), 0, 0, 0, [])), (155, 1, .ireturn, x0)]
theorem de_163 : (op_163.all fun e => decide (decode prog_14_method_37_code e.1 = .ok (e.2.2.1, e.2.1))) = true := by decide +kernel
/-- CutsOrFastModel.ways()I -/
def op_164 : List (Nat × OpE) := [(0, 1, .aload_n 0, x0), (1, 3, .getfield 116, (0, 0, 0, 12, [])), (4, 3, .ifCond .ne 8, (0, 0, 12, 0, [])), (7, 2, .bipush (-103), ((-103), 0, 0, 0, [])), (9, 3, .goto 7, (0, 0, 16, 0, [])), (12, 1, .aload_n 0, x0), (13, 3, .invokevirtual 206, (0, 0, 0, 0, [(12, 163)])), (16, 1, .ireturn, x0)]
theorem de_164 : (op_164.all fun e => decide (decode prog_14_method_38_code e.1 = .ok (e.2.2.1, e.2.1))) = true := by decide +kernel
/-- CutsOrFastModel.size(I)I -/
def op_165 : List (Nat × OpE) := [(0, 1, .iconst 0, x0), (1, 1, .istore_n 1, x0), (2, 1, .iconst 0, x0), (3, 1, .istore_n 2, x0), (4, 1, .iload_n 2, x0), (5, 2, .bipush 10, (10, 0, 0, 0, [])), (7, 3, .if_icmp .ge 17, (0, 0, 24, 0, [])), (10, 1, .iload_n 1, x0), (11, 1, .iload_n 0, x0), (12, 1, .iload_n 2, x0), (13, 1, .ishr, x0), (14, 1, .iconst 1, (1, 0, 0, 0, [])), (15, 1, .iand, x0), (16, 1, .iadd, x0), (17, 1, .istore_n 1, x0), (18, 3, .iinc 2 1, (1, 0, 2, 0, [])), (21, 3, .goto (-17), (0, 0, 4, 0, [])), (24, 1, .iload_n 1, x0), (25, 1, .ireturn, x0)]
theorem de_165 : (op_165.all fun e => decide (decode prog_14_method_39_code e.1 = .ok (e.2.2.1, e.2.1))) = true := by decide +kernel
/-- CutsOrFastModel.partingNow(I)I -/
def op_166 : List (Nat × OpE) := [(0, 1, .aload_n 0, x0), (1, 1, .iconst 0, x0), (2, 3, .invokevirtual 149, (0, 0, 0, 1, [(12, 143)])), (5, 1, .istore_n 2, x0), (6, 1, .iconst (-1), ((-1), 0, 0, 0, [])), (7, 1, .istore_n 3, x0), (8, 1, .iconst 0, x0), (9, 2, .istore 4, x0), (11, 2, .iload 4, x0), (13, 1, .iconst 1, (1, 0, 0, 0, [])), (14, 1, .aload_n 0, x0), (15, 3, .getfield 116, (0, 0, 0, 12, [])), (18, 1, .ishl, x0), (19, 3, .if_icmp .ge 77, (0, 0, 96, 0, [])), (22, 2, .iload 4, x0), (24, 1, .iload_n 2, x0), (25, 1, .iconst (-1), ((-1), 0, 0, 0, [])), (26, 1, .ixor, x0), (27, 1, .iand, x0), (28, 3, .ifCond .ne 30, (0, 0, 58, 0, [])), (31, 1, .aload_n 0, x0), (32, 1, .aload_n 0, x0), (33, 1, .iconst 1, (1, 0, 0, 0, [])), (34, 3, .invokevirtual 149, (0, 0, 0, 1, [(12, 143)])), (37, 1, .iload_n 2, x0), (38, 2, .iload 4, x0), (40, 1, .iconst (-1), ((-1), 0, 0, 0, [])), (41, 1, .ixor, x0), (42, 1, .iand, x0), (43, 1, .ior, x0), (44, 1, .aload_n 0, x0), (45, 3, .getfield 116, (0, 0, 0, 12, [])), (48, 3, .invokevirtual 153, (0, 0, 0, 2, [(12, 142)])), (51, 3, .ifCond .ne 7, (0, 0, 58, 0, [])), (54, 1, .iconst 1, (1, 0, 0, 0, [])), (55, 3, .goto 4, (0, 0, 59, 0, [])), (58, 1, .iconst 0, x0), (59, 2, .istore 5, x0), (61, 2, .iload 5, x0), (63, 3, .ifCond .eq 25, (0, 0, 88, 0, [])), (66, 1, .iload_n 3, x0), (67, 1, .iconst (-1), ((-1), 0, 0, 0, [])), (68, 3, .if_icmp .eq 15, (0, 0, 83, 0, [])), (71, 2, .iload 4, x0), (73, 3, .invokestatic 209, (0, 0, 165, 1, [])), (76, 1, .iload_n 3, x0), (77, 3, .invokestatic 209, (0, 0, 165, 1, [])), (80, 3, .if_icmp .ge 8, (0, 0, 88, 0, [])), (83, 2, .iload 4, x0), (85, 3, .goto 4, (0, 0, 89, 0, [])), (88, 1, .iload_n 3, x0), (89, 1, .istore_n 3, x0), (90, 3, .iinc 4 1, (1, 0, 4, 0, [])), (93, 3, .goto (-82), (0, 0, 11, 0, [])), (96, 1, .iload_n 3, x0), (97, 1, .iconst (-1), ((-1), 0, 0, 0, [])), (98, 3, .if_icmp .eq 8, (0, 0, 106, 0, [])), (101, 1, .iload_n 1, x0), (102, 1, .iconst 1, (1, 0, 0, 0, [])), (103, 3, .if_icmp .ne 7, (0, 0, 110, 0, [])), (106, 1, .iload_n 3, x0), (107, 3, .goto 7, (0, 0, 114, 0, [])), (110, 1, .iload_n 3, x0), (111, 3, .invokestatic 209, (0, 0, 165, 1, [])), (114, 1, .ireturn, x0)]
theorem de_166 : (op_166.all fun e => decide (decode prog_14_method_40_code e.1 = .ok (e.2.2.1, e.2.1))) = true := by decide +kernel
/-- CutsOrFastModel.parting(I)I -/
def op_167 : List (Nat × OpE) := [(0, 1, .aload_n 0, x0), (1, 3, .getfield 116, (0, 0, 0, 12, [])), (4, 3, .ifCond .ne 6, (0, 0, 10, 0, [])), (7, 2, .bipush (-103), ((-103), 0, 0, 0, [])), (9, 1, .ireturn, x0), (10, 1, .iload_n 1, x0), (11, 1, .iconst 0, x0), (12, 1, .iconst 1, (1, 0, 0, 0, [])), (13, 3, .invokestatic 86, (0, 0, 129, 3, [])), (16, 3, .ifCond .eq 11, (0, 0, 27, 0, [])), (19, 1, .aload_n 0, x0), (20, 1, .iload_n 1, x0), (21, 3, .invokevirtual 212, (0, 0, 0, 1, [(12, 166)])), (24, 3, .goto 5, (0, 0, 29, 0, [])), (27, 2, .bipush (-102), ((-102), 0, 0, 0, [])), (29, 1, .ireturn, x0)]
theorem de_167 : (op_167.all fun e => decide (decode prog_14_method_41_code e.1 = .ok (e.2.2.1, e.2.1))) = true := by decide +kernel
/-- CutsOrFastModel.isMendedBy(II)Z -/
def op_168 : List (Nat × OpE) := [(0, 1, .aload_n 0, x0), (1, 3, .getfield 7, (0, 0, 4, 12, [])), (4, 1, .aload_n 0, x0), (5, 3, .getfield 116, (0, 0, 0, 12, [])), (8, 1, .iload_n 1, x0), (9, 1, .iastore, x0), (10, 1, .aload_n 0, x0), (11, 3, .getfield 13, (0, 0, 5, 12, [])), (14, 1, .aload_n 0, x0), (15, 3, .getfield 116, (0, 0, 0, 12, [])), (18, 1, .iload_n 2, x0), (19, 1, .iastore, x0), (20, 1, .aload_n 0, x0), (21, 3, .getfield 16, (0, 0, 6, 12, [])), (24, 1, .aload_n 0, x0), (25, 3, .getfield 116, (0, 0, 0, 12, [])), (28, 1, .iconst 0, x0), (29, 1, .iastore, x0), (30, 1, .aload_n 0, x0), (31, 1, .aload_n 0, x0), (32, 3, .getfield 116, (0, 0, 0, 12, [])), (35, 1, .iconst 1, (1, 0, 0, 0, [])), (36, 1, .iadd, x0), (37, 3, .invokevirtual 191, (0, 0, 0, 1, [(12, 150)])), (40, 1, .aload_n 0, x0), (41, 3, .getfield 61, (0, 0, 36, 12, [])), (44, 1, .iconst 1, (1, 0, 0, 0, [])), (45, 1, .baload, x0), (46, 1, .ireturn, x0)]
theorem de_168 : (op_168.all fun e => decide (decode prog_14_method_42_code e.1 = .ok (e.2.2.1, e.2.1))) = true := by decide +kernel
/-- CutsOrFastModel.mendNow(I)I -/
def op_169 : List (Nat × OpE) := [(0, 1, .aload_n 0, x0), (1, 1, .aload_n 0, x0), (2, 3, .getfield 116, (0, 0, 0, 12, [])), (5, 3, .invokevirtual 191, (0, 0, 0, 1, [(12, 150)])), (8, 1, .aload_n 0, x0), (9, 3, .getfield 61, (0, 0, 36, 12, [])), (12, 1, .iconst 1, (1, 0, 0, 0, [])), (13, 1, .baload, x0), (14, 3, .ifCond .eq 13, (0, 0, 27, 0, [])), (17, 1, .iload_n 1, x0), (18, 3, .ifCond .ne 7, (0, 0, 25, 0, [])), (21, 1, .iconst 0, x0), (22, 3, .goto 4, (0, 0, 26, 0, [])), (25, 1, .iconst (-1), ((-1), 0, 0, 0, [])), (26, 1, .ireturn, x0), (27, 1, .iconst 0, x0), (28, 1, .istore_n 2, x0), (29, 1, .iload_n 2, x0), (30, 2, .bipush 6, (6, 0, 0, 0, [])), (32, 3, .if_icmp .ge 53, (0, 0, 85, 0, [])), (35, 1, .iload_n 2, x0), (36, 1, .iconst 1, (1, 0, 0, 0, [])), (37, 1, .iadd, x0), (38, 1, .istore_n 3, x0), (39, 1, .iload_n 3, x0), (40, 2, .bipush 6, (6, 0, 0, 0, [])), (42, 3, .if_icmp .ge 37, (0, 0, 79, 0, [])), (45, 1, .aload_n 0, x0), (46, 1, .iload_n 2, x0), (47, 1, .iload_n 3, x0), (48, 3, .invokevirtual 215, (0, 0, 0, 2, [(12, 168)])), (51, 3, .ifCond .eq 22, (0, 0, 73, 0, [])), (54, 1, .iload_n 1, x0), (55, 3, .ifCond .ne 7, (0, 0, 62, 0, [])), (58, 1, .iconst 1, (1, 0, 0, 0, [])), (59, 3, .goto 13, (0, 0, 72, 0, [])), (62, 1, .iload_n 1, x0), (63, 1, .iconst 1, (1, 0, 0, 0, [])), (64, 3, .if_icmp .ne 7, (0, 0, 71, 0, [])), (67, 1, .iload_n 2, x0), (68, 3, .goto 4, (0, 0, 72, 0, [])), (71, 1, .iload_n 3, x0), (72, 1, .ireturn, x0), (73, 3, .iinc 3 1, (1, 0, 3, 0, [])), (76, 3, .goto (-37), (0, 0, 39, 0, [])), (79, 3, .iinc 2 1, (1, 0, 2, 0, [])), (82, 3, .goto (-53), (0, 0, 29, 0, [])), (85, 1, .iload_n 1, x0), (86, 3, .ifCond .ne 7, (0, 0, 93, 0, [])), (89, 1, .iconst 2, (2, 0, 0, 0, [])), (90, 3, .goto 4, (0, 0, 94, 0, [])), (93, 1, .iconst (-1), ((-1), 0, 0, 0, [])), (94, 1, .ireturn, x0)]
theorem de_169 : (op_169.all fun e => decide (decode prog_14_method_43_code e.1 = .ok (e.2.2.1, e.2.1))) = true := by decide +kernel
/-- CutsOrFastModel.mend(I)I -/
def op_170 : List (Nat × OpE) := [(0, 1, .aload_n 0, x0), (1, 3, .getfield 116, (0, 0, 0, 12, [])), (4, 3, .ifCond .eq 12, (0, 0, 16, 0, [])), (7, 1, .aload_n 0, x0), (8, 3, .getfield 218, (0, 0, 13, 12, [])), (11, 2, .bipush 20, (20, 0, 0, 0, [])), (13, 3, .if_icmp .ne 6, (0, 0, 19, 0, [])), (16, 2, .bipush (-103), ((-103), 0, 0, 0, [])), (18, 1, .ireturn, x0), (19, 1, .iload_n 1, x0), (20, 1, .iconst 0, x0), (21, 1, .iconst 2, (2, 0, 0, 0, [])), (22, 3, .invokestatic 86, (0, 0, 129, 3, [])), (25, 3, .ifCond .ne 6, (0, 0, 31, 0, [])), (28, 2, .bipush (-102), ((-102), 0, 0, 0, [])), (30, 1, .ireturn, x0), (31, 1, .aload_n 0, x0), (32, 1, .dup, x0), (33, 3, .getfield 218, (0, 0, 13, 12, [])), (36, 1, .iconst 1, (1, 0, 0, 0, [])), (37, 1, .iadd, x0), (38, 3, .putfield 218, (0, 0, 13, 12, [])), (41, 1, .aload_n 0, x0), (42, 1, .iload_n 1, x0), (43, 3, .invokevirtual 221, (0, 0, 0, 1, [(12, 169)])), (46, 1, .ireturn, x0)]
theorem de_170 : (op_170.all fun e => decide (decode prog_14_method_44_code e.1 = .ok (e.2.2.1, e.2.1))) = true := by decide +kernel
/-- CutsOrFastModel.boughtNow(I)I -/
def op_171 : List (Nat × OpE) := [(0, 1, .aload_n 0, x0), (1, 1, .aload_n 0, x0), (2, 3, .getfield 116, (0, 0, 0, 12, [])), (5, 3, .invokevirtual 191, (0, 0, 0, 1, [(12, 150)])), (8, 1, .iconst (-1), ((-1), 0, 0, 0, [])), (9, 1, .istore_n 2, x0), (10, 2, .ldc 224, (1048576, 0, 0, 0, [])), (12, 1, .istore_n 3, x0), (13, 1, .iconst 0, x0), (14, 2, .istore 4, x0), (16, 2, .iload 4, x0), (18, 1, .iconst 1, (1, 0, 0, 0, [])), (19, 1, .aload_n 0, x0), (20, 3, .getfield 116, (0, 0, 0, 12, [])), (23, 1, .ishl, x0), (24, 3, .if_icmp .ge 174, (0, 0, 198, 0, [])), (27, 1, .iconst 0, x0), (28, 2, .istore 5, x0), (30, 1, .iconst 0, x0), (31, 2, .istore 6, x0), (33, 1, .iconst 1, (1, 0, 0, 0, [])), (34, 2, .istore 7, x0), (36, 1, .iconst 0, x0), (37, 2, .istore 8, x0), (39, 2, .iload 8, x0), (41, 1, .aload_n 0, x0), (42, 3, .getfield 116, (0, 0, 0, 12, [])), (45, 3, .if_icmp .ge 67, (0, 0, 112, 0, [])), (48, 2, .iload 7, x0), (50, 3, .ifCond .eq 27, (0, 0, 77, 0, [])), (53, 2, .iload 4, x0), (55, 2, .iload 8, x0), (57, 3, .invokestatic 141, (0, 0, 130, 2, [])), (60, 3, .ifCond .eq 13, (0, 0, 73, 0, [])), (63, 1, .aload_n 0, x0), (64, 3, .getfield 16, (0, 0, 6, 12, [])), (67, 2, .iload 8, x0), (69, 1, .iaload, x0), (70, 3, .ifCond .ne 7, (0, 0, 77, 0, [])), (73, 1, .iconst 1, (1, 0, 0, 0, [])), (74, 3, .goto 4, (0, 0, 78, 0, [])), (77, 1, .iconst 0, x0), (78, 2, .istore 7, x0), (80, 2, .iload 6, x0), (82, 2, .iload 4, x0), (84, 2, .iload 8, x0), (86, 3, .invokestatic 141, (0, 0, 130, 2, [])), (89, 3, .ifCond .eq 13, (0, 0, 102, 0, [])), (92, 1, .aload_n 0, x0), (93, 3, .getfield 19, (0, 0, 7, 12, [])), (96, 2, .iload 8, x0), (98, 1, .iaload, x0), (99, 3, .goto 4, (0, 0, 103, 0, [])), (102, 1, .iconst 0, x0), (103, 1, .iadd, x0), (104, 2, .istore 6, x0), (106, 3, .iinc 8 1, (1, 0, 8, 0, [])), (109, 3, .goto (-70), (0, 0, 39, 0, [])), (112, 1, .iconst 0, x0), (113, 2, .istore 8, x0), (115, 2, .iload 8, x0), (117, 1, .aload_n 0, x0), (118, 3, .getfield 160, (0, 0, 32, 12, [])), (121, 3, .if_icmp .ge 40, (0, 0, 161, 0, [])), (124, 2, .iload 5, x0), (126, 2, .iload 4, x0), (128, 1, .aload_n 0, x0), (129, 3, .getfield 54, (0, 0, 33, 12, [])), (132, 2, .iload 8, x0), (134, 1, .iaload, x0), (135, 3, .invokestatic 141, (0, 0, 130, 2, [])), (138, 3, .ifCond .eq 13, (0, 0, 151, 0, [])), (141, 1, .aload_n 0, x0), (142, 3, .getfield 57, (0, 0, 34, 12, [])), (145, 2, .iload 8, x0), (147, 1, .iaload, x0), (148, 3, .goto 4, (0, 0, 152, 0, [])), (151, 1, .iconst 0, x0), (152, 1, .iadd, x0), (153, 2, .istore 5, x0), (155, 3, .iinc 8 1, (1, 0, 8, 0, [])), (158, 3, .goto (-43), (0, 0, 115, 0, [])), (161, 2, .iload 7, x0), (163, 3, .ifCond .eq 29, (0, 0, 192, 0, [])), (166, 2, .iload 6, x0), (168, 1, .iload_n 3, x0), (169, 3, .if_icmp .ge 23, (0, 0, 192, 0, [])), (172, 1, .aload_n 0, x0), (173, 3, .getfield 61, (0, 0, 36, 12, [])), (176, 1, .iconst 2, (2, 0, 0, 0, [])), (177, 2, .iload 5, x0), (179, 1, .imul, x0), (180, 1, .iconst 1, (1, 0, 0, 0, [])), (181, 1, .iadd, x0), (182, 1, .baload, x0), (183, 3, .ifCond .eq 9, (0, 0, 192, 0, [])), (186, 2, .iload 4, x0), (188, 1, .istore_n 2, x0), (189, 2, .iload 6, x0), (191, 1, .istore_n 3, x0), (192, 3, .iinc 4 1, (1, 0, 4, 0, [])), (195, 3, .goto (-179), (0, 0, 16, 0, [])), (198, 1, .iload_n 2, x0), (199, 1, .iconst (-1), ((-1), 0, 0, 0, [])), (200, 3, .if_icmp .eq 8, (0, 0, 208, 0, [])), (203, 1, .iload_n 1, x0), (204, 1, .iconst 1, (1, 0, 0, 0, [])), (205, 3, .if_icmp .ne 7, (0, 0, 212, 0, [])), (208, 1, .iload_n 2, x0), (209, 3, .goto 4, (0, 0, 213, 0, [])), (212, 1, .iload_n 3, x0), (213, 1, .ireturn, x0)]
theorem de_171 : (op_171.all fun e => decide (decode prog_14_method_45_code e.1 = .ok (e.2.2.1, e.2.1))) = true := by decide +kernel
/-- CutsOrFastModel.bought(I)I -/
def op_172 : List (Nat × OpE) := [(0, 1, .aload_n 0, x0), (1, 3, .getfield 116, (0, 0, 0, 12, [])), (4, 3, .ifCond .ne 6, (0, 0, 10, 0, [])), (7, 2, .bipush (-103), ((-103), 0, 0, 0, [])), (9, 1, .ireturn, x0), (10, 1, .iload_n 1, x0), (11, 1, .iconst 0, x0), (12, 1, .iconst 1, (1, 0, 0, 0, [])), (13, 3, .invokestatic 86, (0, 0, 129, 3, [])), (16, 3, .ifCond .eq 11, (0, 0, 27, 0, [])), (19, 1, .aload_n 0, x0), (20, 1, .iload_n 1, x0), (21, 3, .invokevirtual 225, (0, 0, 0, 1, [(12, 171)])), (24, 3, .goto 5, (0, 0, 29, 0, [])), (27, 2, .bipush (-102), ((-102), 0, 0, 0, [])), (29, 1, .ireturn, x0)]
theorem de_172 : (op_172.all fun e => decide (decode prog_14_method_46_code e.1 = .ok (e.2.2.1, e.2.1))) = true := by decide +kernel
/-- CutsOrFastModel.isAny(II)Z -/
def op_173 : List (Nat × OpE) := [(0, 1, .iload_n 0, x0), (1, 1, .iconst 2, (2, 0, 0, 0, [])), (2, 3, .if_icmp .eq 21, (0, 0, 23, 0, [])), (5, 1, .iload_n 0, x0), (6, 3, .ifCond .ne 8, (0, 0, 14, 0, [])), (9, 1, .iload_n 1, x0), (10, 1, .iconst 1, (1, 0, 0, 0, [])), (11, 3, .if_icmp .eq 12, (0, 0, 23, 0, [])), (14, 1, .iload_n 0, x0), (15, 1, .iconst 1, (1, 0, 0, 0, [])), (16, 3, .if_icmp .ne 11, (0, 0, 27, 0, [])), (19, 1, .iload_n 1, x0), (20, 3, .ifCond .ne 7, (0, 0, 27, 0, [])), (23, 1, .iconst 1, (1, 0, 0, 0, [])), (24, 3, .goto 4, (0, 0, 28, 0, [])), (27, 1, .iconst 0, x0), (28, 1, .ireturn, x0)]
theorem de_173 : (op_173.all fun e => decide (decode prog_14_method_47_code e.1 = .ok (e.2.2.1, e.2.1))) = true := by decide +kernel
/-- CutsOrFastModel.layWholes(I)V -/
def op_174 : List (Nat × OpE) := [(0, 1, .aload_n 0, x0), (1, 3, .getfield 68, (0, 0, 41, 12, [])), (4, 1, .iconst 0, x0), (5, 1, .iconst 1, (1, 0, 0, 0, [])), (6, 1, .iastore, x0), (7, 1, .aload_n 0, x0), (8, 3, .getfield 68, (0, 0, 41, 12, [])), (11, 1, .iconst 1, (1, 0, 0, 0, [])), (12, 1, .iconst 1, (1, 0, 0, 0, [])), (13, 1, .iastore, x0), (14, 1, .iconst 1, (1, 0, 0, 0, [])), (15, 1, .istore_n 2, x0), (16, 1, .iload_n 2, x0), (17, 1, .aload_n 0, x0), (18, 3, .getfield 160, (0, 0, 32, 12, [])), (21, 3, .if_icmp .gt 60, (0, 0, 81, 0, [])), (24, 1, .iconst 0, x0), (25, 1, .istore_n 3, x0), (26, 1, .iload_n 3, x0), (27, 1, .iconst 2, (2, 0, 0, 0, [])), (28, 3, .if_icmp .ge 47, (0, 0, 75, 0, [])), (31, 1, .aload_n 0, x0), (32, 3, .getfield 68, (0, 0, 41, 12, [])), (35, 1, .iconst 2, (2, 0, 0, 0, [])), (36, 1, .iload_n 2, x0), (37, 1, .imul, x0), (38, 1, .iload_n 3, x0), (39, 1, .iadd, x0), (40, 1, .aload_n 0, x0), (41, 3, .getfield 68, (0, 0, 41, 12, [])), (44, 1, .iconst 2, (2, 0, 0, 0, [])), (45, 1, .iload_n 2, x0), (46, 1, .iconst 1, (1, 0, 0, 0, [])), (47, 1, .isub, x0), (48, 1, .imul, x0), (49, 1, .iconst 1, (1, 0, 0, 0, [])), (50, 1, .iadd, x0), (51, 1, .iload_n 3, x0), (52, 1, .isub, x0), (53, 1, .iaload, x0), (54, 1, .iload_n 1, x0), (55, 1, .iload_n 3, x0), (56, 3, .invokestatic 228, (0, 0, 173, 2, [])), (59, 3, .ifCond .eq 7, (0, 0, 66, 0, [])), (62, 1, .iload_n 2, x0), (63, 3, .goto 4, (0, 0, 67, 0, [])), (66, 1, .iconst 1, (1, 0, 0, 0, [])), (67, 1, .imul, x0), (68, 1, .iastore, x0), (69, 3, .iinc 3 1, (1, 0, 3, 0, [])), (72, 3, .goto (-46), (0, 0, 26, 0, [])), (75, 3, .iinc 2 1, (1, 0, 2, 0, [])), (78, 3, .goto (-62), (0, 0, 16, 0, [])), (81, 1, .return_, x0)]
theorem de_174 : (op_174.all fun e => decide (decode prog_14_method_48_code e.1 = .ok (e.2.2.1, e.2.1))) = true := by decide +kernel
/-- CutsOrFastModel.chanceBy(III)I -/
def op_175 : List (Nat × OpE) := [(0, 1, .iconst 0, x0), (1, 2, .istore 4, x0), (3, 1, .iconst (-1), ((-1), 0, 0, 0, [])), (4, 2, .istore 5, x0), (6, 2, .ldc 231, (1073741824, 0, 0, 0, [])), (8, 2, .istore 6, x0), (10, 1, .iconst 0, x0), (11, 2, .istore 7, x0), (13, 2, .iload 7, x0), (15, 1, .aload_n 0, x0), (16, 3, .getfield 160, (0, 0, 32, 12, [])), (19, 3, .if_icmp .ge 94, (0, 0, 113, 0, [])), (22, 1, .iload_n 1, x0), (23, 1, .aload_n 0, x0), (24, 3, .getfield 57, (0, 0, 34, 12, [])), (27, 2, .iload 7, x0), (29, 1, .iaload, x0), (30, 3, .invokestatic 175, (0, 0, 148, 2, [])), (33, 3, .ifCond .ne 74, (0, 0, 107, 0, [])), (36, 1, .aload_n 0, x0), (37, 3, .getfield 65, (0, 0, 40, 12, [])), (40, 1, .iconst 2, (2, 0, 0, 0, [])), (41, 1, .iload_n 1, x0), (42, 1, .iload_n 2, x0), (43, 3, .ifCond .ne 7, (0, 0, 50, 0, [])), (46, 1, .iconst 1, (1, 0, 0, 0, [])), (47, 3, .goto 4, (0, 0, 51, 0, [])), (50, 1, .iconst 2, (2, 0, 0, 0, [])), (51, 1, .aload_n 0, x0), (52, 3, .getfield 57, (0, 0, 34, 12, [])), (55, 2, .iload 7, x0), (57, 1, .iaload, x0), (58, 1, .imul, x0), (59, 1, .iadd, x0), (60, 1, .imul, x0), (61, 1, .iconst 1, (1, 0, 0, 0, [])), (62, 1, .iadd, x0), (63, 1, .iload_n 2, x0), (64, 1, .isub, x0), (65, 1, .iaload, x0), (66, 2, .istore 8, x0), (68, 2, .iload 4, x0), (70, 2, .iload 8, x0), (72, 1, .iadd, x0), (73, 2, .istore 4, x0), (75, 2, .iload 8, x0), (77, 2, .iload 5, x0), (79, 3, .if_icmp .le 8, (0, 0, 87, 0, [])), (82, 2, .iload 8, x0), (84, 3, .goto 5, (0, 0, 89, 0, [])), (87, 2, .iload 5, x0), (89, 2, .istore 5, x0), (91, 2, .iload 8, x0), (93, 2, .iload 6, x0), (95, 3, .if_icmp .ge 8, (0, 0, 103, 0, [])), (98, 2, .iload 8, x0), (100, 3, .goto 5, (0, 0, 105, 0, [])), (103, 2, .iload 6, x0), (105, 2, .istore 6, x0), (107, 3, .iinc 7 1, (1, 0, 7, 0, [])), (110, 3, .goto (-97), (0, 0, 13, 0, [])), (113, 1, .iload_n 3, x0), (114, 1, .iload_n 2, x0), (115, 3, .invokestatic 228, (0, 0, 173, 2, [])), (118, 3, .ifCond .eq 8, (0, 0, 126, 0, [])), (121, 2, .iload 4, x0), (123, 3, .goto 14, (0, 0, 137, 0, [])), (126, 1, .iload_n 2, x0), (127, 3, .ifCond .ne 8, (0, 0, 135, 0, [])), (130, 2, .iload 5, x0), (132, 3, .goto 5, (0, 0, 137, 0, [])), (135, 2, .iload 6, x0), (137, 1, .ireturn, x0)]
theorem de_175 : (op_175.all fun e => decide (decode prog_14_method_49_code e.1 = .ok (e.2.2.1, e.2.1))) = true := by decide +kernel
/-- CutsOrFastModel.lowest(III)I -/
def op_176 : List (Nat × OpE) := [(0, 1, .iload_n 0, x0), (1, 1, .istore_n 3, x0), (2, 1, .iload_n 1, x0), (3, 2, .istore 4, x0), (5, 2, .iload 4, x0), (7, 3, .ifCond .eq 19, (0, 0, 26, 0, [])), (10, 1, .iload_n 3, x0), (11, 2, .iload 4, x0), (13, 1, .irem, x0), (14, 2, .istore 5, x0), (16, 2, .iload 4, x0), (18, 1, .istore_n 3, x0), (19, 2, .iload 5, x0), (21, 2, .istore 4, x0), (23, 3, .goto (-18), (0, 0, 5, 0, [])), (26, 1, .iload_n 2, x0), (27, 3, .ifCond .ne 9, (0, 0, 36, 0, [])), (30, 1, .iload_n 0, x0), (31, 1, .iload_n 3, x0), (32, 1, .idiv, x0), (33, 3, .goto 6, (0, 0, 39, 0, [])), (36, 1, .iload_n 1, x0), (37, 1, .iload_n 3, x0), (38, 1, .idiv, x0), (39, 1, .ireturn, x0)]
theorem de_176 : (op_176.all fun e => decide (decode prog_14_method_50_code e.1 = .ok (e.2.2.1, e.2.1))) = true := by decide +kernel
/-- CutsOrFastModel.likelyNow(II)I -/
def op_177 : List (Nat × OpE) := [(0, 1, .aload_n 0, x0), (1, 1, .aload_n 0, x0), (2, 3, .getfield 116, (0, 0, 0, 12, [])), (5, 3, .invokevirtual 178, (0, 0, 0, 1, [(12, 146)])), (8, 1, .aload_n 0, x0), (9, 1, .iload_n 1, x0), (10, 3, .invokevirtual 232, (0, 0, 0, 1, [(12, 174)])), (13, 1, .aload_n 0, x0), (14, 3, .getfield 57, (0, 0, 34, 12, [])), (17, 1, .aload_n 0, x0), (18, 3, .getfield 160, (0, 0, 32, 12, [])), (21, 1, .iaload, x0), (22, 1, .iconst 1, (1, 0, 0, 0, [])), (23, 1, .isub, x0), (24, 1, .istore_n 3, x0), (25, 1, .iload_n 3, x0), (26, 3, .ifCond .lt 113, (0, 0, 139, 0, [])), (29, 1, .aload_n 0, x0), (30, 1, .iload_n 3, x0), (31, 3, .invokevirtual 182, (0, 0, 0, 1, [(12, 147)])), (34, 1, .aload_n 0, x0), (35, 3, .getfield 50, (0, 0, 31, 12, [])), (38, 1, .aload_n 0, x0), (39, 3, .getfield 166, (0, 0, 37, 12, [])), (42, 1, .baload, x0), (43, 2, .istore 4, x0), (45, 1, .aload_n 0, x0), (46, 3, .getfield 50, (0, 0, 31, 12, [])), (49, 1, .aload_n 0, x0), (50, 3, .getfield 169, (0, 0, 38, 12, [])), (53, 1, .baload, x0), (54, 3, .ifCond .ne 7, (0, 0, 61, 0, [])), (57, 1, .iconst 1, (1, 0, 0, 0, [])), (58, 3, .goto 4, (0, 0, 62, 0, [])), (61, 1, .iconst 0, x0), (62, 2, .istore 5, x0), (64, 1, .aload_n 0, x0), (65, 3, .getfield 172, (0, 0, 39, 12, [])), (68, 2, .istore 6, x0), (70, 1, .iconst 0, x0), (71, 2, .istore 7, x0), (73, 2, .iload 7, x0), (75, 1, .iconst 2, (2, 0, 0, 0, [])), (76, 3, .if_icmp .ge 57, (0, 0, 133, 0, [])), (79, 1, .aload_n 0, x0), (80, 3, .getfield 65, (0, 0, 40, 12, [])), (83, 1, .iconst 2, (2, 0, 0, 0, [])), (84, 1, .iload_n 3, x0), (85, 1, .imul, x0), (86, 2, .iload 7, x0), (88, 1, .iadd, x0), (89, 2, .iload 4, x0), (91, 3, .ifCond .eq 18, (0, 0, 109, 0, [])), (94, 1, .aload_n 0, x0), (95, 3, .getfield 68, (0, 0, 41, 12, [])), (98, 1, .iconst 2, (2, 0, 0, 0, [])), (99, 2, .iload 6, x0), (101, 1, .imul, x0), (102, 2, .iload 7, x0), (104, 1, .iadd, x0), (105, 1, .iaload, x0), (106, 3, .goto 20, (0, 0, 126, 0, [])), (109, 2, .iload 5, x0), (111, 3, .ifCond .eq 7, (0, 0, 118, 0, [])), (114, 1, .iconst 0, x0), (115, 3, .goto 11, (0, 0, 126, 0, [])), (118, 1, .aload_n 0, x0), (119, 1, .iload_n 3, x0), (120, 2, .iload 7, x0), (122, 1, .iload_n 1, x0), (123, 3, .invokevirtual 235, (0, 0, 0, 3, [(12, 175)])), (126, 1, .iastore, x0), (127, 3, .iinc 7 1, (1, 0, 7, 0, [])), (130, 3, .goto (-57), (0, 0, 73, 0, [])), (133, 3, .iinc 3 (-1), ((-1), 0, 3, 0, [])), (136, 3, .goto (-111), (0, 0, 25, 0, [])), (139, 1, .aload_n 0, x0), (140, 3, .getfield 65, (0, 0, 40, 12, [])), (143, 1, .aload_n 0, x0), (144, 3, .getfield 125, (0, 0, 8, 12, [])), (147, 1, .iaload, x0), (148, 1, .aload_n 0, x0), (149, 3, .getfield 68, (0, 0, 41, 12, [])), (152, 1, .iconst 2, (2, 0, 0, 0, [])), (153, 1, .aload_n 0, x0), (154, 3, .getfield 160, (0, 0, 32, 12, [])), (157, 1, .imul, x0), (158, 1, .aload_n 0, x0), (159, 3, .getfield 125, (0, 0, 8, 12, [])), (162, 1, .iadd, x0), (163, 1, .iaload, x0), (164, 1, .iload_n 2, x0), (165, 3, .invokestatic 238, (0, 0, 176, 3, [])), (168, 1, .ireturn, x0)]
theorem de_177 : (op_177.all fun e => decide (decode prog_14_method_51_code e.1 = .ok (e.2.2.1, e.2.1))) = true := by decide +kernel
/-- CutsOrFastModel.likely(II)I -/
def op_178 : List (Nat × OpE) := [(0, 1, .aload_n 0, x0), (1, 3, .getfield 116, (0, 0, 0, 12, [])), (4, 3, .ifCond .ne 6, (0, 0, 10, 0, [])), (7, 2, .bipush (-103), ((-103), 0, 0, 0, [])), (9, 1, .ireturn, x0), (10, 1, .iload_n 1, x0), (11, 1, .iconst 0, x0), (12, 1, .iconst 2, (2, 0, 0, 0, [])), (13, 3, .invokestatic 86, (0, 0, 129, 3, [])), (16, 3, .ifCond .eq 21, (0, 0, 37, 0, [])), (19, 1, .iload_n 2, x0), (20, 1, .iconst 0, x0), (21, 1, .iconst 1, (1, 0, 0, 0, [])), (22, 3, .invokestatic 86, (0, 0, 129, 3, [])), (25, 3, .ifCond .eq 12, (0, 0, 37, 0, [])), (28, 1, .aload_n 0, x0), (29, 1, .iload_n 1, x0), (30, 1, .iload_n 2, x0), (31, 3, .invokevirtual 241, (0, 0, 0, 2, [(12, 177)])), (34, 3, .goto 5, (0, 0, 39, 0, [])), (37, 2, .bipush (-102), ((-102), 0, 0, 0, [])), (39, 1, .ireturn, x0)]
theorem de_178 : (op_178.all fun e => decide (decode prog_14_method_52_code e.1 = .ok (e.2.2.1, e.2.1))) = true := by decide +kernel
/-- CutsOrFastModel.player(I)I -/
def op_179 : List (Nat × OpE) := [(0, 1, .iload_n 1, x0), (1, 1, .iconst 0, x0), (2, 1, .iconst 4, (4, 0, 0, 0, [])), (3, 3, .invokestatic 86, (0, 0, 129, 3, [])), (6, 3, .ifCond .ne 6, (0, 0, 12, 0, [])), (9, 2, .bipush (-102), ((-102), 0, 0, 0, [])), (11, 1, .ireturn, x0), (12, 1, .aload_n 0, x0), (13, 3, .getfield 244, (0, 0, 11, 12, [])), (16, 1, .iconst 5, (5, 0, 0, 0, [])), (17, 3, .if_icmp .ne 6, (0, 0, 23, 0, [])), (20, 2, .bipush (-104), ((-104), 0, 0, 0, [])), (22, 1, .ireturn, x0), (23, 1, .aload_n 0, x0), (24, 3, .getfield 25, (0, 0, 12, 12, [])), (27, 1, .aload_n 0, x0), (28, 3, .getfield 244, (0, 0, 11, 12, [])), (31, 1, .iload_n 1, x0), (32, 1, .iastore, x0), (33, 1, .aload_n 0, x0), (34, 1, .dup, x0), (35, 3, .getfield 244, (0, 0, 11, 12, [])), (38, 1, .iconst 1, (1, 0, 0, 0, [])), (39, 1, .iadd, x0), (40, 3, .putfield 244, (0, 0, 11, 12, [])), (43, 1, .aload_n 0, x0), (44, 3, .getfield 244, (0, 0, 11, 12, [])), (47, 1, .iconst 1, (1, 0, 0, 0, [])), (48, 1, .isub, x0), (49, 1, .ireturn, x0)]
theorem de_179 : (op_179.all fun e => decide (decode prog_14_method_53_code e.1 = .ok (e.2.2.1, e.2.1))) = true := by decide +kernel
/-- CutsOrFastModel.isPlayer(I)Z -/
def op_180 : List (Nat × OpE) := [(0, 1, .iload_n 1, x0), (1, 1, .iconst 0, x0), (2, 1, .aload_n 0, x0), (3, 3, .getfield 244, (0, 0, 11, 12, [])), (6, 1, .iconst 1, (1, 0, 0, 0, [])), (7, 1, .isub, x0), (8, 3, .invokestatic 86, (0, 0, 129, 3, [])), (11, 1, .ireturn, x0)]
theorem de_180 : (op_180.all fun e => decide (decode prog_14_method_54_code e.1 = .ok (e.2.2.1, e.2.1))) = true := by decide +kernel
/-- CutsOrFastModel.as(II)I -/
def op_181 : List (Nat × OpE) := [(0, 1, .aload_n 0, x0), (1, 1, .iload_n 1, x0), (2, 3, .invokevirtual 247, (0, 0, 0, 1, [(12, 180)])), (5, 3, .ifCond .ne 6, (0, 0, 11, 0, [])), (8, 2, .bipush (-101), ((-101), 0, 0, 0, [])), (10, 1, .ireturn, x0), (11, 1, .iload_n 2, x0), (12, 1, .iconst 0, x0), (13, 1, .iconst 4, (4, 0, 0, 0, [])), (14, 3, .invokestatic 86, (0, 0, 129, 3, [])), (17, 3, .ifCond .ne 6, (0, 0, 23, 0, [])), (20, 2, .bipush (-102), ((-102), 0, 0, 0, [])), (22, 1, .ireturn, x0), (23, 1, .aload_n 0, x0), (24, 3, .getfield 25, (0, 0, 12, 12, [])), (27, 1, .iload_n 1, x0), (28, 1, .iaload, x0), (29, 1, .istore_n 3, x0), (30, 1, .iload_n 2, x0), (31, 3, .ifCond .eq 18, (0, 0, 49, 0, [])), (34, 1, .iload_n 3, x0), (35, 1, .iload_n 2, x0), (36, 3, .if_icmp .eq 13, (0, 0, 49, 0, [])), (39, 1, .iload_n 2, x0), (40, 1, .iconst 2, (2, 0, 0, 0, [])), (41, 3, .if_icmp .ne 12, (0, 0, 53, 0, [])), (44, 1, .iload_n 3, x0), (45, 1, .iconst 3, (3, 0, 0, 0, [])), (46, 3, .if_icmp .ne 7, (0, 0, 53, 0, [])), (49, 1, .iload_n 1, x0), (50, 3, .goto 4, (0, 0, 54, 0, [])), (53, 1, .iconst (-1), ((-1), 0, 0, 0, [])), (54, 1, .ireturn, x0)]
theorem de_181 : (op_181.all fun e => decide (decode prog_14_method_55_code e.1 = .ok (e.2.2.1, e.2.1))) = true := by decide +kernel
/-- CutsOrFastModel.draw(I)I -/
def op_182 : List (Nat × OpE) := [(0, 1, .aload_n 0, x0), (1, 3, .ldc2_w 250, (0, 1103515245, 0, 0, [])), (4, 1, .aload_n 0, x0), (5, 3, .getfield 252, (0, 0, 42, 12, [])), (8, 1, .lmul, x0), (9, 3, .ldc2_w 256, (0, 12345, 0, 0, [])), (12, 1, .ladd, x0), (13, 3, .ldc2_w 258, (0, 2147483647, 0, 0, [])), (16, 1, .land, x0), (17, 3, .putfield 252, (0, 0, 42, 12, [])), (20, 1, .aload_n 0, x0), (21, 3, .getfield 252, (0, 0, 42, 12, [])), (24, 3, .ldc2_w 260, (0, 65536, 0, 0, [])), (27, 1, .ldiv, x0), (28, 1, .iload_n 1, x0), (29, 1, .i2l, x0), (30, 1, .lrem, x0), (31, 1, .l2i, x0), (32, 1, .ireturn, x0)]
theorem de_182 : (op_182.all fun e => decide (decode prog_14_method_56_code e.1 = .ok (e.2.2.1, e.2.1))) = true := by decide +kernel
/-- CutsOrFastModel.nthOpen(I)I -/
def op_183 : List (Nat × OpE) := [(0, 1, .iload_n 1, x0), (1, 1, .istore_n 2, x0), (2, 1, .iconst 0, x0), (3, 1, .istore_n 3, x0), (4, 1, .iload_n 3, x0), (5, 1, .aload_n 0, x0), (6, 3, .getfield 116, (0, 0, 0, 12, [])), (9, 3, .if_icmp .ge 27, (0, 0, 36, 0, [])), (12, 1, .aload_n 0, x0), (13, 3, .getfield 16, (0, 0, 6, 12, [])), (16, 1, .iload_n 3, x0), (17, 1, .iaload, x0), (18, 3, .ifCond .ne 12, (0, 0, 30, 0, [])), (21, 1, .iload_n 2, x0), (22, 3, .ifCond .ne 5, (0, 0, 27, 0, [])), (25, 1, .iload_n 3, x0), (26, 1, .ireturn, x0), (27, 3, .iinc 2 (-1), ((-1), 0, 2, 0, [])), (30, 3, .iinc 3 1, (1, 0, 3, 0, [])), (33, 3, .goto (-29), (0, 0, 4, 0, [])), (36, 1, .iconst (-1), ((-1), 0, 0, 0, [])), (37, 1, .ireturn, x0)]
theorem de_183 : (op_183.all fun e => decide (decode prog_14_method_57_code e.1 = .ok (e.2.2.1, e.2.1))) = true := by decide +kernel
/-- CutsOrFastModel.layFar()V -/
def op_184 : List (Nat × OpE) := [(0, 1, .iconst 0, x0), (1, 1, .istore_n 1, x0), (2, 1, .iload_n 1, x0), (3, 2, .bipush 6, (6, 0, 0, 0, [])), (5, 3, .if_icmp .ge 49, (0, 0, 54, 0, [])), (8, 1, .aload_n 0, x0), (9, 3, .getfield 71, (0, 0, 43, 12, [])), (12, 1, .iload_n 1, x0), (13, 1, .iload_n 1, x0), (14, 1, .aload_n 0, x0), (15, 3, .getfield 119, (0, 0, 2, 12, [])), (18, 3, .if_icmp .ne 7, (0, 0, 25, 0, [])), (21, 1, .iconst 0, x0), (22, 3, .goto 5, (0, 0, 27, 0, [])), (25, 2, .ldc 224, (1048576, 0, 0, 0, [])), (27, 1, .iastore, x0), (28, 1, .aload_n 0, x0), (29, 3, .getfield 74, (0, 0, 44, 12, [])), (32, 1, .iload_n 1, x0), (33, 1, .iload_n 1, x0), (34, 1, .aload_n 0, x0), (35, 3, .getfield 122, (0, 0, 3, 12, [])), (38, 3, .if_icmp .ne 7, (0, 0, 45, 0, [])), (41, 1, .iconst 0, x0), (42, 3, .goto 5, (0, 0, 47, 0, [])), (45, 2, .ldc 224, (1048576, 0, 0, 0, [])), (47, 1, .iastore, x0), (48, 3, .iinc 1 1, (1, 0, 1, 0, [])), (51, 3, .goto (-49), (0, 0, 2, 0, [])), (54, 1, .iconst 0, x0), (55, 1, .istore_n 1, x0), (56, 1, .iload_n 1, x0), (57, 2, .bipush 6, (6, 0, 0, 0, [])), (59, 3, .if_icmp .ge 252, (0, 0, 311, 0, [])), (62, 1, .iconst 0, x0), (63, 1, .istore_n 2, x0), (64, 1, .iload_n 2, x0), (65, 1, .aload_n 0, x0), (66, 3, .getfield 116, (0, 0, 0, 12, [])), (69, 3, .if_icmp .ge 236, (0, 0, 305, 0, [])), (72, 1, .aload_n 0, x0), (73, 3, .getfield 16, (0, 0, 6, 12, [])), (76, 1, .iload_n 2, x0), (77, 1, .iaload, x0), (78, 1, .iconst 2, (2, 0, 0, 0, [])), (79, 3, .if_icmp .ne 8, (0, 0, 87, 0, [])), (82, 2, .ldc 224, (1048576, 0, 0, 0, [])), (84, 3, .goto 18, (0, 0, 102, 0, [])), (87, 1, .aload_n 0, x0), (88, 3, .getfield 16, (0, 0, 6, 12, [])), (91, 1, .iload_n 2, x0), (92, 1, .iaload, x0), (93, 1, .iconst 1, (1, 0, 0, 0, [])), (94, 3, .if_icmp .ne 7, (0, 0, 101, 0, [])), (97, 1, .iconst 0, x0), (98, 3, .goto 4, (0, 0, 102, 0, [])), (101, 1, .iconst 1, (1, 0, 0, 0, [])), (102, 1, .istore_n 3, x0), (103, 1, .aload_n 0, x0), (104, 3, .getfield 7, (0, 0, 4, 12, [])), (107, 1, .iload_n 2, x0), (108, 1, .iaload, x0), (109, 2, .istore 4, x0), (111, 1, .aload_n 0, x0), (112, 3, .getfield 13, (0, 0, 5, 12, [])), (115, 1, .iload_n 2, x0), (116, 1, .iaload, x0), (117, 2, .istore 5, x0), (119, 1, .aload_n 0, x0), (120, 3, .getfield 71, (0, 0, 43, 12, [])), (123, 2, .iload 4, x0), (125, 1, .aload_n 0, x0), (126, 3, .getfield 71, (0, 0, 43, 12, [])), (129, 2, .iload 5, x0), (131, 1, .iaload, x0), (132, 1, .iload_n 3, x0), (133, 1, .iadd, x0), (134, 1, .aload_n 0, x0), (135, 3, .getfield 71, (0, 0, 43, 12, [])), (138, 2, .iload 4, x0), (140, 1, .iaload, x0), (141, 3, .if_icmp .ge 15, (0, 0, 156, 0, [])), (144, 1, .aload_n 0, x0), (145, 3, .getfield 71, (0, 0, 43, 12, [])), (148, 2, .iload 5, x0), (150, 1, .iaload, x0), (151, 1, .iload_n 3, x0), (152, 1, .iadd, x0), (153, 3, .goto 10, (0, 0, 163, 0, [])), (156, 1, .aload_n 0, x0), (157, 3, .getfield 71, (0, 0, 43, 12, [])), (160, 2, .iload 4, x0), (162, 1, .iaload, x0), (163, 1, .iastore, x0), (164, 1, .aload_n 0, x0), (165, 3, .getfield 71, (0, 0, 43, 12, [])), (168, 2, .iload 5, x0), (170, 1, .aload_n 0, x0), (171, 3, .getfield 71, (0, 0, 43, 12, [])), (174, 2, .iload 4, x0), (176, 1, .iaload, x0), (177, 1, .iload_n 3, x0), (178, 1, .iadd, x0), (179, 1, .aload_n 0, x0), (180, 3, .getfield 71, (0, 0, 43, 12, [])), (183, 2, .iload 5, x0), (185, 1, .iaload, x0), (186, 3, .if_icmp .ge 15, (0, 0, 201, 0, [])), (189, 1, .aload_n 0, x0), (190, 3, .getfield 71, (0, 0, 43, 12, [])), (193, 2, .iload 4, x0), (195, 1, .iaload, x0), (196, 1, .iload_n 3, x0), (197, 1, .iadd, x0), (198, 3, .goto 10, (0, 0, 208, 0, [])), (201, 1, .aload_n 0, x0), (202, 3, .getfield 71, (0, 0, 43, 12, [])), (205, 2, .iload 5, x0), (207, 1, .iaload, x0), (208, 1, .iastore, x0), (209, 1, .aload_n 0, x0), (210, 3, .getfield 74, (0, 0, 44, 12, [])), (213, 2, .iload 4, x0), (215, 1, .aload_n 0, x0), (216, 3, .getfield 74, (0, 0, 44, 12, [])), (219, 2, .iload 5, x0), (221, 1, .iaload, x0), (222, 1, .iload_n 3, x0), (223, 1, .iadd, x0), (224, 1, .aload_n 0, x0), (225, 3, .getfield 74, (0, 0, 44, 12, [])), (228, 2, .iload 4, x0), (230, 1, .iaload, x0), (231, 3, .if_icmp .ge 15, (0, 0, 246, 0, [])), (234, 1, .aload_n 0, x0), (235, 3, .getfield 74, (0, 0, 44, 12, [])), (238, 2, .iload 5, x0), (240, 1, .iaload, x0), (241, 1, .iload_n 3, x0), (242, 1, .iadd, x0), (243, 3, .goto 10, (0, 0, 253, 0, [])), (246, 1, .aload_n 0, x0), (247, 3, .getfield 74, (0, 0, 44, 12, [])), (250, 2, .iload 4, x0), (252, 1, .iaload, x0), (253, 1, .iastore, x0), (254, 1, .aload_n 0, x0), (255, 3, .getfield 74, (0, 0, 44, 12, [])), (258, 2, .iload 5, x0), (260, 1, .aload_n 0, x0), (261, 3, .getfield 74, (0, 0, 44, 12, [])), (264, 2, .iload 4, x0), (266, 1, .iaload, x0), (267, 1, .iload_n 3, x0), (268, 1, .iadd, x0), (269, 1, .aload_n 0, x0), (270, 3, .getfield 74, (0, 0, 44, 12, [])), (273, 2, .iload 5, x0), (275, 1, .iaload, x0), (276, 3, .if_icmp .ge 15, (0, 0, 291, 0, [])), (279, 1, .aload_n 0, x0), (280, 3, .getfield 74, (0, 0, 44, 12, [])), (283, 2, .iload 4, x0), (285, 1, .iaload, x0), (286, 1, .iload_n 3, x0), (287, 1, .iadd, x0), (288, 3, .goto 10, (0, 0, 298, 0, [])), (291, 1, .aload_n 0, x0), (292, 3, .getfield 74, (0, 0, 44, 12, [])), (295, 2, .iload 5, x0), (297, 1, .iaload, x0), (298, 1, .iastore, x0), (299, 3, .iinc 2 1, (1, 0, 2, 0, [])), (302, 3, .goto (-238), (0, 0, 64, 0, [])), (305, 3, .iinc 1 1, (1, 0, 1, 0, [])), (308, 3, .goto (-252), (0, 0, 56, 0, [])), (311, 1, .return_, x0)]
theorem de_184 : (op_184.all fun e => decide (decode prog_14_method_58_code e.1 = .ok (e.2.2.1, e.2.1))) = true := by decide +kernel
/-- CutsOrFastModel.isNear(I)Z -/
def op_185 : List (Nat × OpE) := [(0, 1, .aload_n 0, x0), (1, 3, .getfield 71, (0, 0, 43, 12, [])), (4, 1, .aload_n 0, x0), (5, 3, .getfield 122, (0, 0, 3, 12, [])), (8, 1, .iaload, x0), (9, 1, .istore_n 2, x0), (10, 1, .aload_n 0, x0), (11, 3, .getfield 71, (0, 0, 43, 12, [])), (14, 1, .aload_n 0, x0), (15, 3, .getfield 7, (0, 0, 4, 12, [])), (18, 1, .iload_n 1, x0), (19, 1, .iaload, x0), (20, 1, .iaload, x0), (21, 1, .iconst 1, (1, 0, 0, 0, [])), (22, 1, .iadd, x0), (23, 1, .aload_n 0, x0), (24, 3, .getfield 74, (0, 0, 44, 12, [])), (27, 1, .aload_n 0, x0), (28, 3, .getfield 13, (0, 0, 5, 12, [])), (31, 1, .iload_n 1, x0), (32, 1, .iaload, x0), (33, 1, .iaload, x0), (34, 1, .iadd, x0), (35, 1, .iload_n 2, x0), (36, 3, .if_icmp .ne 7, (0, 0, 43, 0, [])), (39, 1, .iconst 1, (1, 0, 0, 0, [])), (40, 3, .goto 4, (0, 0, 44, 0, [])), (43, 1, .iconst 0, x0), (44, 1, .istore_n 3, x0), (45, 1, .aload_n 0, x0), (46, 3, .getfield 16, (0, 0, 6, 12, [])), (49, 1, .iload_n 1, x0), (50, 1, .iaload, x0), (51, 3, .ifCond .ne 40, (0, 0, 91, 0, [])), (54, 1, .iload_n 3, x0), (55, 3, .ifCond .ne 32, (0, 0, 87, 0, [])), (58, 1, .aload_n 0, x0), (59, 3, .getfield 71, (0, 0, 43, 12, [])), (62, 1, .aload_n 0, x0), (63, 3, .getfield 13, (0, 0, 5, 12, [])), (66, 1, .iload_n 1, x0), (67, 1, .iaload, x0), (68, 1, .iaload, x0), (69, 1, .iconst 1, (1, 0, 0, 0, [])), (70, 1, .iadd, x0), (71, 1, .aload_n 0, x0), (72, 3, .getfield 74, (0, 0, 44, 12, [])), (75, 1, .aload_n 0, x0), (76, 3, .getfield 7, (0, 0, 4, 12, [])), (79, 1, .iload_n 1, x0), (80, 1, .iaload, x0), (81, 1, .iaload, x0), (82, 1, .iadd, x0), (83, 1, .iload_n 2, x0), (84, 3, .if_icmp .ne 7, (0, 0, 91, 0, [])), (87, 1, .iconst 1, (1, 0, 0, 0, [])), (88, 3, .goto 4, (0, 0, 92, 0, [])), (91, 1, .iconst 0, x0), (92, 1, .ireturn, x0)]
theorem de_185 : (op_185.all fun e => decide (decode prog_14_method_59_code e.1 = .ok (e.2.2.1, e.2.1))) = true := by decide +kernel
/-- CutsOrFastModel.nearest(Z)I -/
def op_186 : List (Nat × OpE) := [(0, 1, .aload_n 0, x0), (1, 3, .invokevirtual 262, (0, 0, 0, 0, [(12, 184)])), (4, 1, .iconst (-1), ((-1), 0, 0, 0, [])), (5, 1, .istore_n 2, x0), (6, 1, .iconst 0, x0), (7, 1, .istore_n 3, x0), (8, 1, .iload_n 3, x0), (9, 1, .aload_n 0, x0), (10, 3, .getfield 116, (0, 0, 0, 12, [])), (13, 3, .if_icmp .ge 59, (0, 0, 72, 0, [])), (16, 1, .iload_n 2, x0), (17, 1, .iconst (-1), ((-1), 0, 0, 0, [])), (18, 3, .if_icmp .eq 22, (0, 0, 40, 0, [])), (21, 1, .iload_n 1, x0), (22, 3, .ifCond .eq 22, (0, 0, 44, 0, [])), (25, 1, .aload_n 0, x0), (26, 3, .getfield 19, (0, 0, 7, 12, [])), (29, 1, .iload_n 3, x0), (30, 1, .iaload, x0), (31, 1, .aload_n 0, x0), (32, 3, .getfield 19, (0, 0, 7, 12, [])), (35, 1, .iload_n 2, x0), (36, 1, .iaload, x0), (37, 3, .if_icmp .le 7, (0, 0, 44, 0, [])), (40, 1, .iconst 1, (1, 0, 0, 0, [])), (41, 3, .goto 4, (0, 0, 45, 0, [])), (44, 1, .iconst 0, x0), (45, 2, .istore 4, x0), (47, 1, .aload_n 0, x0), (48, 1, .iload_n 3, x0), (49, 3, .invokevirtual 265, (0, 0, 0, 1, [(12, 185)])), (52, 3, .ifCond .eq 12, (0, 0, 64, 0, [])), (55, 2, .iload 4, x0), (57, 3, .ifCond .eq 7, (0, 0, 64, 0, [])), (60, 1, .iload_n 3, x0), (61, 3, .goto 4, (0, 0, 65, 0, [])), (64, 1, .iload_n 2, x0), (65, 1, .istore_n 2, x0), (66, 3, .iinc 3 1, (1, 0, 3, 0, [])), (69, 3, .goto (-61), (0, 0, 8, 0, [])), (72, 1, .iload_n 2, x0), (73, 1, .ireturn, x0)]
theorem de_186 : (op_186.all fun e => decide (decode prog_14_method_60_code e.1 = .ok (e.2.2.1, e.2.1))) = true := by decide +kernel
/-- CutsOrFastModel.openMany()I -/
def op_187 : List (Nat × OpE) := [(0, 1, .aload_n 0, x0), (1, 1, .iconst 0, x0), (2, 3, .invokevirtual 149, (0, 0, 0, 1, [(12, 143)])), (5, 3, .invokestatic 209, (0, 0, 165, 1, [])), (8, 1, .ireturn, x0)]
theorem de_187 : (op_187.all fun e => decide (decode prog_14_method_61_code e.1 = .ok (e.2.2.1, e.2.1))) = true := by decide +kernel
/-- CutsOrFastModel.takes(II)I -/
def op_188 : List (Nat × OpE) := [(0, 1, .aload_n 0, x0), (1, 3, .getfield 25, (0, 0, 12, 12, [])), (4, 1, .iload_n 1, x0), (5, 1, .iaload, x0), (6, 30, .tableswitch 76 1 4 #[30, 51, 57, 63], (0, 0, 82, 1, [(1, 36), (2, 57), (3, 63), (4, 69)])), (36, 1, .aload_n 0, x0), (37, 1, .iload_n 2, x0), (38, 3, .invokevirtual 197, (0, 0, 0, 1, [(12, 154)])), (41, 1, .istore_n 3, x0), (42, 1, .iload_n 3, x0), (43, 1, .iconst (-1), ((-1), 0, 0, 0, [])), (44, 3, .if_icmp .ne 11, (0, 0, 55, 0, [])), (47, 1, .aload_n 0, x0), (48, 1, .iconst 0, x0), (49, 3, .invokevirtual 268, (0, 0, 0, 1, [(12, 183)])), (52, 3, .goto 4, (0, 0, 56, 0, [])), (55, 1, .iload_n 3, x0), (56, 1, .ireturn, x0), (57, 1, .aload_n 0, x0), (58, 1, .iconst 0, x0), (59, 3, .invokevirtual 271, (0, 0, 0, 1, [(12, 186)])), (62, 1, .ireturn, x0), (63, 1, .aload_n 0, x0), (64, 1, .iconst 1, (1, 0, 0, 0, [])), (65, 3, .invokevirtual 271, (0, 0, 0, 1, [(12, 186)])), (68, 1, .ireturn, x0), (69, 1, .aload_n 0, x0), (70, 1, .aload_n 0, x0), (71, 1, .aload_n 0, x0), (72, 3, .invokevirtual 275, (0, 0, 0, 0, [(12, 187)])), (75, 3, .invokevirtual 278, (0, 0, 0, 1, [(12, 182)])), (78, 3, .invokevirtual 268, (0, 0, 0, 1, [(12, 183)])), (81, 1, .ireturn, x0), (82, 1, .aload_n 0, x0), (83, 1, .iconst 0, x0), (84, 3, .invokevirtual 268, (0, 0, 0, 1, [(12, 183)])), (87, 1, .ireturn, x0)]
theorem de_188 : (op_188.all fun e => decide (decode prog_14_method_62_code e.1 = .ok (e.2.2.1, e.2.1))) = true := by decide +kernel
/-- CutsOrFastModel.move(II)I -/
def op_189 : List (Nat × OpE) := [(0, 1, .aload_n 0, x0), (1, 1, .iload_n 1, x0), (2, 3, .invokevirtual 247, (0, 0, 0, 1, [(12, 180)])), (5, 3, .ifCond .ne 6, (0, 0, 11, 0, [])), (8, 2, .bipush (-101), ((-101), 0, 0, 0, [])), (10, 1, .ireturn, x0), (11, 1, .aload_n 0, x0), (12, 3, .getfield 116, (0, 0, 0, 12, [])), (15, 3, .ifCond .eq 10, (0, 0, 25, 0, [])), (18, 1, .aload_n 0, x0), (19, 3, .invokevirtual 156, (0, 0, 0, 0, [(12, 144)])), (22, 3, .ifCond .eq 6, (0, 0, 28, 0, [])), (25, 2, .bipush (-103), ((-103), 0, 0, 0, [])), (27, 1, .ireturn, x0), (28, 1, .iload_n 2, x0), (29, 3, .ifCond .ge 6, (0, 0, 35, 0, [])), (32, 2, .bipush (-102), ((-102), 0, 0, 0, [])), (34, 1, .ireturn, x0), (35, 1, .aload_n 0, x0), (36, 1, .iload_n 2, x0), (37, 1, .i2l, x0), (38, 3, .putfield 252, (0, 0, 42, 12, [])), (41, 1, .aload_n 0, x0), (42, 1, .iload_n 1, x0), (43, 1, .aload_n 0, x0), (44, 3, .getfield 125, (0, 0, 8, 12, [])), (47, 3, .invokevirtual 281, (0, 0, 0, 2, [(12, 188)])), (50, 1, .ireturn, x0)]
theorem de_189 : (op_189.all fun e => decide (decode prog_14_method_63_code e.1 = .ok (e.2.2.1, e.2.1))) = true := by decide +kernel
/-- CutsOrFastModel.playOut(III)I -/
def op_190 : List (Nat × OpE) := [(0, 1, .iconst 0, x0), (1, 2, .istore 4, x0), (3, 2, .iload 4, x0), (5, 1, .aload_n 0, x0), (6, 3, .getfield 116, (0, 0, 0, 12, [])), (9, 3, .if_icmp .ge 23, (0, 0, 32, 0, [])), (12, 1, .aload_n 0, x0), (13, 3, .getfield 77, (0, 0, 45, 12, [])), (16, 2, .iload 4, x0), (18, 1, .aload_n 0, x0), (19, 3, .getfield 16, (0, 0, 6, 12, [])), (22, 2, .iload 4, x0), (24, 1, .iaload, x0), (25, 1, .iastore, x0), (26, 3, .iinc 4 1, (1, 0, 4, 0, [])), (29, 3, .goto (-26), (0, 0, 3, 0, [])), (32, 1, .iconst 0, x0), (33, 2, .istore 4, x0), (35, 1, .aload_n 0, x0), (36, 3, .invokevirtual 156, (0, 0, 0, 0, [(12, 144)])), (39, 3, .ifCond .ne 55, (0, 0, 94, 0, [])), (42, 1, .aload_n 0, x0), (43, 3, .getfield 125, (0, 0, 8, 12, [])), (46, 2, .iload 4, x0), (48, 1, .iadd, x0), (49, 1, .iconst 2, (2, 0, 0, 0, [])), (50, 1, .irem, x0), (51, 2, .istore 5, x0), (53, 1, .aload_n 0, x0), (54, 2, .iload 5, x0), (56, 3, .ifCond .ne 7, (0, 0, 63, 0, [])), (59, 1, .iload_n 1, x0), (60, 3, .goto 4, (0, 0, 64, 0, [])), (63, 1, .iload_n 2, x0), (64, 2, .iload 5, x0), (66, 3, .invokevirtual 281, (0, 0, 0, 2, [(12, 188)])), (69, 2, .istore 6, x0), (71, 1, .aload_n 0, x0), (72, 3, .getfield 16, (0, 0, 6, 12, [])), (75, 2, .iload 6, x0), (77, 2, .iload 5, x0), (79, 3, .ifCond .ne 7, (0, 0, 86, 0, [])), (82, 1, .iconst 1, (1, 0, 0, 0, [])), (83, 3, .goto 4, (0, 0, 87, 0, [])), (86, 1, .iconst 2, (2, 0, 0, 0, [])), (87, 1, .iastore, x0), (88, 3, .iinc 4 1, (1, 0, 4, 0, [])), (91, 3, .goto (-56), (0, 0, 35, 0, [])), (94, 1, .aload_n 0, x0), (95, 3, .invokevirtual 156, (0, 0, 0, 0, [(12, 144)])), (98, 1, .iconst 1, (1, 0, 0, 0, [])), (99, 1, .isub, x0), (100, 2, .istore 5, x0), (102, 1, .aload_n 0, x0), (103, 1, .iconst 1, (1, 0, 0, 0, [])), (104, 3, .invokevirtual 149, (0, 0, 0, 1, [(12, 143)])), (107, 2, .istore 6, x0), (109, 1, .iconst 0, x0), (110, 2, .istore 7, x0), (112, 2, .iload 7, x0), (114, 1, .aload_n 0, x0), (115, 3, .getfield 116, (0, 0, 0, 12, [])), (118, 3, .if_icmp .ge 23, (0, 0, 141, 0, [])), (121, 1, .aload_n 0, x0), (122, 3, .getfield 16, (0, 0, 6, 12, [])), (125, 2, .iload 7, x0), (127, 1, .aload_n 0, x0), (128, 3, .getfield 77, (0, 0, 45, 12, [])), (131, 2, .iload 7, x0), (133, 1, .iaload, x0), (134, 1, .iastore, x0), (135, 3, .iinc 7 1, (1, 0, 7, 0, [])), (138, 3, .goto (-26), (0, 0, 112, 0, [])), (141, 1, .iload_n 3, x0), (142, 3, .ifCond .ne 8, (0, 0, 150, 0, [])), (145, 2, .iload 5, x0), (147, 3, .goto 28, (0, 0, 175, 0, [])), (150, 1, .iload_n 3, x0), (151, 1, .iconst 1, (1, 0, 0, 0, [])), (152, 3, .if_icmp .ne 8, (0, 0, 160, 0, [])), (155, 2, .iload 4, x0), (157, 3, .goto 18, (0, 0, 175, 0, [])), (160, 1, .iload_n 3, x0), (161, 1, .iconst 2, (2, 0, 0, 0, [])), (162, 3, .if_icmp .ne 8, (0, 0, 170, 0, [])), (165, 2, .iload 6, x0), (167, 3, .goto 8, (0, 0, 175, 0, [])), (170, 1, .aload_n 0, x0), (171, 3, .getfield 252, (0, 0, 42, 12, [])), (174, 1, .l2i, x0), (175, 1, .ireturn, x0)]
theorem de_190 : (op_190.all fun e => decide (decode prog_14_method_64_code e.1 = .ok (e.2.2.1, e.2.1))) = true := by decide +kernel
/-- CutsOrFastModel.game(IIII)I -/
def op_191 : List (Nat × OpE) := [(0, 1, .aload_n 0, x0), (1, 1, .iload_n 1, x0), (2, 3, .invokevirtual 247, (0, 0, 0, 1, [(12, 180)])), (5, 3, .ifCond .eq 11, (0, 0, 16, 0, [])), (8, 1, .aload_n 0, x0), (9, 1, .iload_n 2, x0), (10, 3, .invokevirtual 247, (0, 0, 0, 1, [(12, 180)])), (13, 3, .ifCond .ne 6, (0, 0, 19, 0, [])), (16, 2, .bipush (-101), ((-101), 0, 0, 0, [])), (18, 1, .ireturn, x0), (19, 1, .aload_n 0, x0), (20, 3, .getfield 116, (0, 0, 0, 12, [])), (23, 3, .ifCond .ne 6, (0, 0, 29, 0, [])), (26, 2, .bipush (-103), ((-103), 0, 0, 0, [])), (28, 1, .ireturn, x0), (29, 1, .iload_n 3, x0), (30, 3, .ifCond .lt 13, (0, 0, 43, 0, [])), (33, 2, .iload 4, x0), (35, 1, .iconst 0, x0), (36, 1, .iconst 3, (3, 0, 0, 0, [])), (37, 3, .invokestatic 86, (0, 0, 129, 3, [])), (40, 3, .ifCond .ne 6, (0, 0, 46, 0, [])), (43, 2, .bipush (-102), ((-102), 0, 0, 0, [])), (45, 1, .ireturn, x0), (46, 1, .aload_n 0, x0), (47, 1, .iload_n 3, x0), (48, 1, .i2l, x0), (49, 3, .putfield 252, (0, 0, 42, 12, [])), (52, 1, .aload_n 0, x0), (53, 1, .iload_n 1, x0), (54, 1, .iload_n 2, x0), (55, 2, .iload 4, x0), (57, 3, .invokevirtual 284, (0, 0, 0, 3, [(12, 190)])), (60, 1, .ireturn, x0)]
theorem de_191 : (op_191.all fun e => decide (decode prog_14_method_65_code e.1 = .ok (e.2.2.1, e.2.1))) = true := by decide +kernel
/-- CutsOrFastModel.image()I -/
def op_192 : List (Nat × OpE) := [(0, 1, .aload_n 0, x0), (1, 3, .getfield 116, (0, 0, 0, 12, [])), (4, 3, .ifCond .ne 6, (0, 0, 10, 0, [])), (7, 2, .bipush (-103), ((-103), 0, 0, 0, [])), (9, 1, .ireturn, x0), (10, 1, .aload_n 0, x0), (11, 1, .iconst 1, (1, 0, 0, 0, [])), (12, 3, .putfield 287, (0, 0, 16, 12, [])), (15, 1, .aload_n 0, x0), (16, 1, .aload_n 0, x0), (17, 3, .getfield 131, (0, 0, 1, 12, [])), (20, 3, .putfield 290, (0, 0, 17, 12, [])), (23, 1, .aload_n 0, x0), (24, 1, .aload_n 0, x0), (25, 3, .getfield 125, (0, 0, 8, 12, [])), (28, 3, .putfield 293, (0, 0, 18, 12, [])), (31, 1, .aload_n 0, x0), (32, 1, .aload_n 0, x0), (33, 3, .getfield 128, (0, 0, 9, 12, [])), (36, 3, .putfield 296, (0, 0, 19, 12, [])), (39, 1, .iconst 0, x0), (40, 1, .istore_n 1, x0), (41, 1, .iload_n 1, x0), (42, 2, .bipush 9, (9, 0, 0, 0, [])), (44, 3, .if_icmp .ge 33, (0, 0, 77, 0, [])), (47, 1, .aload_n 0, x0), (48, 3, .getfield 32, (0, 0, 20, 12, [])), (51, 1, .iload_n 1, x0), (52, 1, .aload_n 0, x0), (53, 3, .getfield 16, (0, 0, 6, 12, [])), (56, 1, .iload_n 1, x0), (57, 1, .iaload, x0), (58, 1, .iastore, x0), (59, 1, .aload_n 0, x0), (60, 3, .getfield 35, (0, 0, 21, 12, [])), (63, 1, .iload_n 1, x0), (64, 1, .aload_n 0, x0), (65, 3, .getfield 22, (0, 0, 10, 12, [])), (68, 1, .iload_n 1, x0), (69, 1, .iaload, x0), (70, 1, .iastore, x0), (71, 3, .iinc 1 1, (1, 0, 1, 0, [])), (74, 3, .goto (-33), (0, 0, 41, 0, [])), (77, 1, .aload_n 0, x0), (78, 3, .getfield 128, (0, 0, 9, 12, [])), (81, 1, .ireturn, x0)]
theorem de_192 : (op_192.all fun e => decide (decode prog_14_method_66_code e.1 = .ok (e.2.2.1, e.2.1))) = true := by decide +kernel
/-- CutsOrFastModel.restore()I -/
def op_193 : List (Nat × OpE) := [(0, 1, .aload_n 0, x0), (1, 3, .getfield 287, (0, 0, 16, 12, [])), (4, 3, .ifCond .eq 14, (0, 0, 18, 0, [])), (7, 1, .aload_n 0, x0), (8, 3, .getfield 290, (0, 0, 17, 12, [])), (11, 1, .aload_n 0, x0), (12, 3, .getfield 131, (0, 0, 1, 12, [])), (15, 3, .if_icmp .eq 6, (0, 0, 21, 0, [])), (18, 2, .bipush (-103), ((-103), 0, 0, 0, [])), (20, 1, .ireturn, x0), (21, 1, .aload_n 0, x0), (22, 1, .aload_n 0, x0), (23, 3, .getfield 293, (0, 0, 18, 12, [])), (26, 3, .putfield 125, (0, 0, 8, 12, [])), (29, 1, .aload_n 0, x0), (30, 1, .aload_n 0, x0), (31, 3, .getfield 296, (0, 0, 19, 12, [])), (34, 3, .putfield 128, (0, 0, 9, 12, [])), (37, 1, .iconst 0, x0), (38, 1, .istore_n 1, x0), (39, 1, .iload_n 1, x0), (40, 2, .bipush 9, (9, 0, 0, 0, [])), (42, 3, .if_icmp .ge 33, (0, 0, 75, 0, [])), (45, 1, .aload_n 0, x0), (46, 3, .getfield 16, (0, 0, 6, 12, [])), (49, 1, .iload_n 1, x0), (50, 1, .aload_n 0, x0), (51, 3, .getfield 32, (0, 0, 20, 12, [])), (54, 1, .iload_n 1, x0), (55, 1, .iaload, x0), (56, 1, .iastore, x0), (57, 1, .aload_n 0, x0), (58, 3, .getfield 22, (0, 0, 10, 12, [])), (61, 1, .iload_n 1, x0), (62, 1, .aload_n 0, x0), (63, 3, .getfield 35, (0, 0, 21, 12, [])), (66, 1, .iload_n 1, x0), (67, 1, .iaload, x0), (68, 1, .iastore, x0), (69, 3, .iinc 1 1, (1, 0, 1, 0, [])), (72, 3, .goto (-33), (0, 0, 39, 0, [])), (75, 1, .aload_n 0, x0), (76, 3, .getfield 128, (0, 0, 9, 12, [])), (79, 1, .ireturn, x0)]
theorem de_193 : (op_193.all fun e => decide (decode prog_14_method_67_code e.1 = .ok (e.2.2.1, e.2.1))) = true := by decide +kernel
/-- CutsOrFastModel.howMany(I)I -/
def op_194 : List (Nat × OpE) := [(0, 1, .iload_n 1, x0), (1, 55, .tableswitch 101 0 9 #[55, 60, 60, 60, 71, 76, 81, 86, 91, 96], (0, 0, 102, 0, [(0, 56), (1, 61), (2, 61), (3, 61), (4, 72), (5, 77), (6, 82), (7, 87), (8, 92), (9, 97)])), (56, 1, .aload_n 0, x0), (57, 3, .getfield 116, (0, 0, 0, 12, [])), (60, 1, .ireturn, x0), (61, 1, .aload_n 0, x0), (62, 1, .iload_n 1, x0), (63, 1, .iconst 1, (1, 0, 0, 0, [])), (64, 1, .isub, x0), (65, 3, .invokevirtual 149, (0, 0, 0, 1, [(12, 143)])), (68, 3, .invokestatic 209, (0, 0, 165, 1, [])), (71, 1, .ireturn, x0), (72, 1, .aload_n 0, x0), (73, 3, .getfield 128, (0, 0, 9, 12, [])), (76, 1, .ireturn, x0), (77, 1, .aload_n 0, x0), (78, 3, .getfield 125, (0, 0, 8, 12, [])), (81, 1, .ireturn, x0), (82, 1, .aload_n 0, x0), (83, 3, .getfield 244, (0, 0, 11, 12, [])), (86, 1, .ireturn, x0), (87, 1, .aload_n 0, x0), (88, 3, .getfield 82, (0, 0, 14, 12, [])), (91, 1, .ireturn, x0), (92, 1, .aload_n 0, x0), (93, 3, .getfield 131, (0, 0, 1, 12, [])), (96, 1, .ireturn, x0), (97, 1, .aload_n 0, x0), (98, 3, .getfield 218, (0, 0, 13, 12, [])), (101, 1, .ireturn, x0), (102, 2, .bipush (-102), ((-102), 0, 0, 0, [])), (104, 1, .ireturn, x0)]
theorem de_194 : (op_194.all fun e => decide (decode prog_14_method_68_code e.1 = .ok (e.2.2.1, e.2.1))) = true := by decide +kernel
/-- CutsOrFastModel.count(I)I -/
def op_195 : List (Nat × OpE) := [(0, 1, .aload_n 0, x0), (1, 1, .iload_n 1, x0), (2, 3, .invokevirtual 299, (0, 0, 0, 1, [(12, 194)])), (5, 1, .ireturn, x0)]
theorem de_195 : (op_195.all fun e => decide (decode prog_14_method_69_code e.1 = .ok (e.2.2.1, e.2.1))) = true := by decide +kernel
/-- CutsOrFastModel.mix(J)V -/
def op_196 : List (Nat × OpE) := [(0, 1, .aload_n 0, x0), (1, 3, .ldc2_w 302, (0, 31, 0, 0, [])), (4, 1, .aload_n 0, x0), (5, 3, .getfield 304, (0, 0, 46, 12, [])), (8, 1, .lmul, x0), (9, 1, .lload_n 1, x0), (10, 1, .ladd, x0), (11, 3, .putfield 304, (0, 0, 46, 12, [])), (14, 1, .return_, x0)]
theorem de_196 : (op_196.all fun e => decide (decode prog_14_method_70_code e.1 = .ok (e.2.2.1, e.2.1))) = true := by decide +kernel
/-- CutsOrFastModel.mixNet()V -/
def op_197 : List (Nat × OpE) := [(0, 1, .aload_n 0, x0), (1, 1, .aload_n 0, x0), (2, 3, .invokevirtual 156, (0, 0, 0, 0, [(12, 144)])), (5, 1, .i2l, x0), (6, 3, .invokevirtual 307, (0, 0, 0, 1, [(12, 196)])), (9, 1, .aload_n 0, x0), (10, 1, .aload_n 0, x0), (11, 3, .getfield 116, (0, 0, 0, 12, [])), (14, 3, .invokevirtual 191, (0, 0, 0, 1, [(12, 150)])), (17, 1, .aload_n 0, x0), (18, 1, .aload_n 0, x0), (19, 3, .getfield 61, (0, 0, 36, 12, [])), (22, 1, .iconst 0, x0), (23, 1, .baload, x0), (24, 3, .ifCond .eq 7, (0, 0, 31, 0, [])), (27, 1, .lconst 0, x0), (28, 3, .goto 4, (0, 0, 32, 0, [])), (31, 1, .lconst 1, (0, 1, 0, 0, [])), (32, 3, .invokevirtual 307, (0, 0, 0, 1, [(12, 196)])), (35, 1, .aload_n 0, x0), (36, 1, .aload_n 0, x0), (37, 3, .getfield 61, (0, 0, 36, 12, [])), (40, 1, .iconst 1, (1, 0, 0, 0, [])), (41, 1, .baload, x0), (42, 3, .ifCond .eq 7, (0, 0, 49, 0, [])), (45, 1, .lconst 0, x0), (46, 3, .goto 4, (0, 0, 50, 0, [])), (49, 1, .lconst 1, (0, 1, 0, 0, [])), (50, 3, .invokevirtual 307, (0, 0, 0, 1, [(12, 196)])), (53, 1, .aload_n 0, x0), (54, 1, .aload_n 0, x0), (55, 1, .iconst 0, x0), (56, 3, .invokevirtual 197, (0, 0, 0, 1, [(12, 154)])), (59, 1, .i2l, x0), (60, 3, .invokevirtual 307, (0, 0, 0, 1, [(12, 196)])), (63, 1, .aload_n 0, x0), (64, 1, .aload_n 0, x0), (65, 1, .iconst 1, (1, 0, 0, 0, [])), (66, 3, .invokevirtual 197, (0, 0, 0, 1, [(12, 154)])), (69, 1, .i2l, x0), (70, 3, .invokevirtual 307, (0, 0, 0, 1, [(12, 196)])), (73, 1, .aload_n 0, x0), (74, 1, .aload_n 0, x0), (75, 3, .invokevirtual 203, (0, 0, 0, 0, [(12, 160)])), (78, 1, .i2l, x0), (79, 3, .invokevirtual 307, (0, 0, 0, 1, [(12, 196)])), (82, 1, .aload_n 0, x0), (83, 1, .aload_n 0, x0), (84, 3, .invokevirtual 206, (0, 0, 0, 0, [(12, 163)])), (87, 1, .i2l, x0), (88, 3, .invokevirtual 307, (0, 0, 0, 1, [(12, 196)])), (91, 1, .aload_n 0, x0), (92, 1, .aload_n 0, x0), (93, 1, .iconst 0, x0), (94, 3, .invokevirtual 212, (0, 0, 0, 1, [(12, 166)])), (97, 1, .i2l, x0), (98, 3, .invokevirtual 307, (0, 0, 0, 1, [(12, 196)])), (101, 1, .aload_n 0, x0), (102, 1, .aload_n 0, x0), (103, 1, .iconst 1, (1, 0, 0, 0, [])), (104, 3, .invokevirtual 212, (0, 0, 0, 1, [(12, 166)])), (107, 1, .i2l, x0), (108, 3, .invokevirtual 307, (0, 0, 0, 1, [(12, 196)])), (111, 1, .aload_n 0, x0), (112, 1, .aload_n 0, x0), (113, 1, .iconst 0, x0), (114, 3, .invokevirtual 225, (0, 0, 0, 1, [(12, 171)])), (117, 1, .i2l, x0), (118, 3, .invokevirtual 307, (0, 0, 0, 1, [(12, 196)])), (121, 1, .aload_n 0, x0), (122, 1, .aload_n 0, x0), (123, 1, .iconst 1, (1, 0, 0, 0, [])), (124, 3, .invokevirtual 225, (0, 0, 0, 1, [(12, 171)])), (127, 1, .i2l, x0), (128, 3, .invokevirtual 307, (0, 0, 0, 1, [(12, 196)])), (131, 1, .iconst 0, x0), (132, 1, .istore_n 1, x0), (133, 1, .iload_n 1, x0), (134, 1, .iconst 3, (3, 0, 0, 0, [])), (135, 3, .if_icmp .ge 31, (0, 0, 166, 0, [])), (138, 1, .aload_n 0, x0), (139, 1, .aload_n 0, x0), (140, 1, .iload_n 1, x0), (141, 1, .iconst 0, x0), (142, 3, .invokevirtual 241, (0, 0, 0, 2, [(12, 177)])), (145, 1, .i2l, x0), (146, 3, .invokevirtual 307, (0, 0, 0, 1, [(12, 196)])), (149, 1, .aload_n 0, x0), (150, 1, .aload_n 0, x0), (151, 1, .iload_n 1, x0), (152, 1, .iconst 1, (1, 0, 0, 0, [])), (153, 3, .invokevirtual 241, (0, 0, 0, 2, [(12, 177)])), (156, 1, .i2l, x0), (157, 3, .invokevirtual 307, (0, 0, 0, 1, [(12, 196)])), (160, 3, .iinc 1 1, (1, 0, 1, 0, [])), (163, 3, .goto (-30), (0, 0, 133, 0, [])), (166, 1, .return_, x0)]
theorem de_197 : (op_197.all fun e => decide (decode prog_14_method_71_code e.1 = .ok (e.2.2.1, e.2.1))) = true := by decide +kernel
/-- CutsOrFastModel.digest()J -/
def op_198 : List (Nat × OpE) := [(0, 1, .aload_n 0, x0), (1, 3, .ldc2_w 311, (0, 587, 0, 0, [])), (4, 3, .putfield 304, (0, 0, 46, 12, [])), (7, 1, .iconst 0, x0), (8, 1, .istore_n 1, x0), (9, 1, .iload_n 1, x0), (10, 1, .aload_n 0, x0), (11, 3, .getfield 116, (0, 0, 0, 12, [])), (14, 3, .if_icmp .ge 33, (0, 0, 47, 0, [])), (17, 1, .iconst 0, x0), (18, 1, .istore_n 2, x0), (19, 1, .iload_n 2, x0), (20, 1, .iconst 4, (4, 0, 0, 0, [])), (21, 3, .if_icmp .ge 20, (0, 0, 41, 0, [])), (24, 1, .aload_n 0, x0), (25, 1, .aload_n 0, x0), (26, 1, .iload_n 1, x0), (27, 1, .iload_n 2, x0), (28, 3, .invokevirtual 138, (0, 0, 0, 2, [(12, 139)])), (31, 1, .i2l, x0), (32, 3, .invokevirtual 307, (0, 0, 0, 1, [(12, 196)])), (35, 3, .iinc 2 1, (1, 0, 2, 0, [])), (38, 3, .goto (-19), (0, 0, 19, 0, [])), (41, 3, .iinc 1 1, (1, 0, 1, 0, [])), (44, 3, .goto (-35), (0, 0, 9, 0, [])), (47, 1, .aload_n 0, x0), (48, 3, .getfield 116, (0, 0, 0, 12, [])), (51, 3, .ifCond .le 7, (0, 0, 58, 0, [])), (54, 1, .aload_n 0, x0), (55, 3, .invokevirtual 313, (0, 0, 0, 0, [(12, 197)])), (58, 1, .iconst 0, x0), (59, 1, .istore_n 1, x0), (60, 1, .iload_n 1, x0), (61, 1, .aload_n 0, x0), (62, 3, .getfield 244, (0, 0, 11, 12, [])), (65, 3, .if_icmp .ge 20, (0, 0, 85, 0, [])), (68, 1, .aload_n 0, x0), (69, 1, .aload_n 0, x0), (70, 3, .getfield 25, (0, 0, 12, 12, [])), (73, 1, .iload_n 1, x0), (74, 1, .iaload, x0), (75, 1, .i2l, x0), (76, 3, .invokevirtual 307, (0, 0, 0, 1, [(12, 196)])), (79, 3, .iinc 1 1, (1, 0, 1, 0, [])), (82, 3, .goto (-22), (0, 0, 60, 0, [])), (85, 1, .iconst 0, x0), (86, 1, .istore_n 1, x0), (87, 1, .iload_n 1, x0), (88, 1, .aload_n 0, x0), (89, 3, .getfield 82, (0, 0, 14, 12, [])), (92, 3, .if_icmp .ge 20, (0, 0, 112, 0, [])), (95, 1, .aload_n 0, x0), (96, 1, .aload_n 0, x0), (97, 3, .getfield 28, (0, 0, 15, 12, [])), (100, 1, .iload_n 1, x0), (101, 1, .baload, x0), (102, 1, .i2l, x0), (103, 3, .invokevirtual 307, (0, 0, 0, 1, [(12, 196)])), (106, 3, .iinc 1 1, (1, 0, 1, 0, [])), (109, 3, .goto (-22), (0, 0, 87, 0, [])), (112, 1, .iconst 0, x0), (113, 1, .istore_n 1, x0), (114, 1, .iload_n 1, x0), (115, 2, .bipush 10, (10, 0, 0, 0, [])), (117, 3, .if_icmp .ge 19, (0, 0, 136, 0, [])), (120, 1, .aload_n 0, x0), (121, 1, .aload_n 0, x0), (122, 1, .iload_n 1, x0), (123, 3, .invokevirtual 299, (0, 0, 0, 1, [(12, 194)])), (126, 1, .i2l, x0), (127, 3, .invokevirtual 307, (0, 0, 0, 1, [(12, 196)])), (130, 3, .iinc 1 1, (1, 0, 1, 0, [])), (133, 3, .goto (-19), (0, 0, 114, 0, [])), (136, 1, .aload_n 0, x0), (137, 3, .getfield 304, (0, 0, 46, 12, [])), (140, 1, .lreturn, x0)]
theorem de_198 : (op_198.all fun e => decide (decode prog_14_method_72_code e.1 = .ok (e.2.2.1, e.2.1))) = true := by decide +kernel
/-- java/lang/Integer.bitCount(I)I -/
def op_199 : List (Nat × OpE) := [(0, 1, .iload_n 0, x0), (1, 1, .iload_n 0, x0), (2, 1, .iconst 1, (1, 0, 0, 0, [])), (3, 1, .iushr, x0), (4, 3, .ldc_w 265, (1431655765, 0, 0, 0, [])), (7, 1, .iand, x0), (8, 1, .isub, x0), (9, 1, .istore_n 0, x0), (10, 1, .iload_n 0, x0), (11, 3, .ldc_w 266, (858993459, 0, 0, 0, [])), (14, 1, .iand, x0), (15, 1, .iload_n 0, x0), (16, 1, .iconst 2, (2, 0, 0, 0, [])), (17, 1, .iushr, x0), (18, 3, .ldc_w 266, (858993459, 0, 0, 0, [])), (21, 1, .iand, x0), (22, 1, .iadd, x0), (23, 1, .istore_n 0, x0), (24, 1, .iload_n 0, x0), (25, 1, .iload_n 0, x0), (26, 1, .iconst 4, (4, 0, 0, 0, [])), (27, 1, .iushr, x0), (28, 1, .iadd, x0), (29, 3, .ldc_w 267, (252645135, 0, 0, 0, [])), (32, 1, .iand, x0), (33, 1, .istore_n 0, x0), (34, 1, .iload_n 0, x0), (35, 1, .iload_n 0, x0), (36, 2, .bipush 8, (8, 0, 0, 0, [])), (38, 1, .iushr, x0), (39, 1, .iadd, x0), (40, 1, .istore_n 0, x0), (41, 1, .iload_n 0, x0), (42, 1, .iload_n 0, x0), (43, 2, .bipush 16, (16, 0, 0, 0, [])), (45, 1, .iushr, x0), (46, 1, .iadd, x0), (47, 1, .istore_n 0, x0), (48, 1, .iload_n 0, x0), (49, 2, .bipush 63, (63, 0, 0, 0, [])), (51, 1, .iand, x0), (52, 1, .ireturn, x0)]
theorem de_199 : (op_199.all fun e => decide (decode prog_15_method_49_code e.1 = .ok (e.2.2.1, e.2.1))) = true := by decide +kernel
/-- java/lang/Math.max(II)I -/
def op_200 : List (Nat × OpE) := [(0, 1, .iload_n 0, x0), (1, 1, .iload_n 1, x0), (2, 3, .if_icmp .lt 7, (0, 0, 9, 0, [])), (5, 1, .iload_n 0, x0), (6, 3, .goto 4, (0, 0, 10, 0, [])), (9, 1, .iload_n 1, x0), (10, 1, .ireturn, x0)]
theorem de_200 : (op_200.all fun e => decide (decode prog_16_method_65_code e.1 = .ok (e.2.2.1, e.2.1))) = true := by decide +kernel
/-- java/lang/Math.min(II)I -/
def op_201 : List (Nat × OpE) := [(0, 1, .iload_n 0, x0), (1, 1, .iload_n 1, x0), (2, 3, .if_icmp .gt 7, (0, 0, 9, 0, [])), (5, 1, .iload_n 0, x0), (6, 3, .goto 4, (0, 0, 10, 0, [])), (9, 1, .iload_n 1, x0), (10, 1, .ireturn, x0)]
theorem de_201 : (op_201.all fun e => decide (decode prog_16_method_69_code e.1 = .ok (e.2.2.1, e.2.1))) = true := by decide +kernel
/-- CutsOrFastLaw.law([I)Z -/
def op_202 : List (Nat × OpE) := [(0, 3, .new 7, (0, 0, 11, 13, [])), (3, 1, .dup, x0), (4, 3, .invokespecial 9, (0, 0, 88, 0, [])), (7, 1, .astore_n 1, x0), (8, 3, .new 10, (0, 0, 12, 47, [])), (11, 1, .dup, x0), (12, 3, .invokespecial 12, (0, 0, 128, 0, [])), (15, 1, .astore_n 2, x0), (16, 1, .iconst 0, x0), (17, 1, .istore_n 3, x0), (18, 1, .iload_n 3, x0), (19, 1, .aload_n 0, x0), (20, 1, .arraylength, x0), (21, 1, .iconst 5, (5, 0, 0, 0, [])), (22, 1, .isub, x0), (23, 3, .if_icmp .gt 734, (0, 0, 757, 0, [])), (26, 1, .aload_n 0, x0), (27, 1, .iload_n 3, x0), (28, 1, .iaload, x0), (29, 2, .bipush 31, (31, 0, 0, 0, [])), (31, 1, .iand, x0), (32, 120, .tableswitch 719 0 25 #[120, 173, 186, 199, 212, 245, 258, 281, 304, 317, 340, 363, 386, 399, 412, 435, 458, 481, 514, 537, 570, 603, 656, 669, 682, 705], (0, 0, 751, 0, [(0, 152), (1, 205), (2, 218), (3, 231), (4, 244), (5, 277), (6, 290), (7, 313), (8, 336), (9, 349), (10, 372), (11, 395), (12, 418), (13, 431), (14, 444), (15, 467), (16, 490), (17, 513), (18, 546), (19, 569), (20, 602), (21, 635), (22, 688), (23, 701), (24, 714), (25, 737)])), (152, 1, .aload_n 1, x0), (153, 1, .aload_n 0, x0), (154, 1, .iload_n 3, x0), (155, 1, .iconst 1, (1, 0, 0, 0, [])), (156, 1, .iadd, x0), (157, 1, .iaload, x0), (158, 1, .i2l, x0), (159, 2, .bipush 32, (32, 0, 0, 0, [])), (161, 1, .lshl, x0), (162, 1, .aload_n 0, x0), (163, 1, .iload_n 3, x0), (164, 1, .iconst 2, (2, 0, 0, 0, [])), (165, 1, .iadd, x0), (166, 1, .iaload, x0), (167, 1, .i2l, x0), (168, 3, .ldc2_w 13, (0, 4294967295, 0, 0, [])), (171, 1, .land, x0), (172, 1, .lor, x0), (173, 3, .invokevirtual 15, (0, 0, 0, 1, [(11, 89)])), (176, 1, .aload_n 2, x0), (177, 1, .aload_n 0, x0), (178, 1, .iload_n 3, x0), (179, 1, .iconst 1, (1, 0, 0, 0, [])), (180, 1, .iadd, x0), (181, 1, .iaload, x0), (182, 1, .i2l, x0), (183, 2, .bipush 32, (32, 0, 0, 0, [])), (185, 1, .lshl, x0), (186, 1, .aload_n 0, x0), (187, 1, .iload_n 3, x0), (188, 1, .iconst 2, (2, 0, 0, 0, [])), (189, 1, .iadd, x0), (190, 1, .iaload, x0), (191, 1, .i2l, x0), (192, 3, .ldc2_w 13, (0, 4294967295, 0, 0, [])), (195, 1, .land, x0), (196, 1, .lor, x0), (197, 3, .invokevirtual 19, (0, 0, 0, 1, [(12, 131)])), (200, 3, .if_icmp .eq 551, (0, 0, 751, 0, [])), (203, 1, .iconst 0, x0), (204, 1, .ireturn, x0), (205, 1, .aload_n 1, x0), (206, 3, .invokevirtual 20, (0, 0, 0, 0, [(11, 90)])), (209, 1, .aload_n 2, x0), (210, 3, .invokevirtual 24, (0, 0, 0, 0, [(12, 132)])), (213, 3, .if_icmp .eq 538, (0, 0, 751, 0, [])), (216, 1, .iconst 0, x0), (217, 1, .ireturn, x0), (218, 1, .aload_n 1, x0), (219, 3, .invokevirtual 25, (0, 0, 0, 0, [(11, 91)])), (222, 1, .aload_n 2, x0), (223, 3, .invokevirtual 28, (0, 0, 0, 0, [(12, 136)])), (226, 3, .if_icmp .eq 525, (0, 0, 751, 0, [])), (229, 1, .iconst 0, x0), (230, 1, .ireturn, x0), (231, 1, .aload_n 1, x0), (232, 3, .invokevirtual 29, (0, 0, 0, 0, [(11, 92)])), (235, 1, .aload_n 2, x0), (236, 3, .invokevirtual 32, (0, 0, 0, 0, [(12, 137)])), (239, 3, .if_icmp .eq 512, (0, 0, 751, 0, [])), (242, 1, .iconst 0, x0), (243, 1, .ireturn, x0), (244, 1, .aload_n 1, x0), (245, 1, .aload_n 0, x0), (246, 1, .iload_n 3, x0), (247, 1, .iconst 1, (1, 0, 0, 0, [])), (248, 1, .iadd, x0), (249, 1, .iaload, x0), (250, 1, .aload_n 0, x0), (251, 1, .iload_n 3, x0), (252, 1, .iconst 2, (2, 0, 0, 0, [])), (253, 1, .iadd, x0), (254, 1, .iaload, x0), (255, 3, .invokevirtual 33, (0, 0, 0, 2, [(11, 93)])), (258, 1, .aload_n 2, x0), (259, 1, .aload_n 0, x0), (260, 1, .iload_n 3, x0), (261, 1, .iconst 1, (1, 0, 0, 0, [])), (262, 1, .iadd, x0), (263, 1, .iaload, x0), (264, 1, .aload_n 0, x0), (265, 1, .iload_n 3, x0), (266, 1, .iconst 2, (2, 0, 0, 0, [])), (267, 1, .iadd, x0), (268, 1, .iaload, x0), (269, 3, .invokevirtual 37, (0, 0, 0, 2, [(12, 140)])), (272, 3, .if_icmp .eq 479, (0, 0, 751, 0, [])), (275, 1, .iconst 0, x0), (276, 1, .ireturn, x0), (277, 1, .aload_n 1, x0), (278, 3, .invokevirtual 38, (0, 0, 0, 0, [(11, 94)])), (281, 1, .aload_n 2, x0), (282, 3, .invokevirtual 41, (0, 0, 0, 0, [(12, 145)])), (285, 3, .if_icmp .eq 466, (0, 0, 751, 0, [])), (288, 1, .iconst 0, x0), (289, 1, .ireturn, x0), (290, 1, .aload_n 1, x0), (291, 1, .aload_n 0, x0), (292, 1, .iload_n 3, x0), (293, 1, .iconst 1, (1, 0, 0, 0, [])), (294, 1, .iadd, x0), (295, 1, .iaload, x0), (296, 3, .invokevirtual 42, (0, 0, 0, 1, [(11, 95)])), (299, 1, .aload_n 2, x0), (300, 1, .aload_n 0, x0), (301, 1, .iload_n 3, x0), (302, 1, .iconst 1, (1, 0, 0, 0, [])), (303, 1, .iadd, x0), (304, 1, .iaload, x0), (305, 3, .invokevirtual 46, (0, 0, 0, 1, [(12, 156)])), (308, 3, .if_icmp .eq 443, (0, 0, 751, 0, [])), (311, 1, .iconst 0, x0), (312, 1, .ireturn, x0), (313, 1, .aload_n 1, x0), (314, 1, .aload_n 0, x0), (315, 1, .iload_n 3, x0), (316, 1, .iconst 1, (1, 0, 0, 0, [])), (317, 1, .iadd, x0), (318, 1, .iaload, x0), (319, 3, .invokevirtual 47, (0, 0, 0, 1, [(11, 96)])), (322, 1, .aload_n 2, x0), (323, 1, .aload_n 0, x0), (324, 1, .iload_n 3, x0), (325, 1, .iconst 1, (1, 0, 0, 0, [])), (326, 1, .iadd, x0), (327, 1, .iaload, x0), (328, 3, .invokevirtual 50, (0, 0, 0, 1, [(12, 157)])), (331, 3, .if_icmp .eq 420, (0, 0, 751, 0, [])), (334, 1, .iconst 0, x0), (335, 1, .ireturn, x0), (336, 1, .aload_n 1, x0), (337, 3, .invokevirtual 51, (0, 0, 0, 0, [(11, 97)])), (340, 1, .aload_n 2, x0), (341, 3, .invokevirtual 54, (0, 0, 0, 0, [(12, 158)])), (344, 3, .if_icmp .eq 407, (0, 0, 751, 0, [])), (347, 1, .iconst 0, x0), (348, 1, .ireturn, x0), (349, 1, .aload_n 1, x0), (350, 1, .aload_n 0, x0), (351, 1, .iload_n 3, x0), (352, 1, .iconst 1, (1, 0, 0, 0, [])), (353, 1, .iadd, x0), (354, 1, .iaload, x0), (355, 3, .invokevirtual 55, (0, 0, 0, 1, [(11, 98)])), (358, 1, .aload_n 2, x0), (359, 1, .aload_n 0, x0), (360, 1, .iload_n 3, x0), (361, 1, .iconst 1, (1, 0, 0, 0, [])), (362, 1, .iadd, x0), (363, 1, .iaload, x0), (364, 3, .invokevirtual 58, (0, 0, 0, 1, [(12, 152)])), (367, 3, .if_icmp .eq 384, (0, 0, 751, 0, [])), (370, 1, .iconst 0, x0), (371, 1, .ireturn, x0), (372, 1, .aload_n 1, x0), (373, 1, .aload_n 0, x0), (374, 1, .iload_n 3, x0), (375, 1, .iconst 1, (1, 0, 0, 0, [])), (376, 1, .iadd, x0), (377, 1, .iaload, x0), (378, 3, .invokevirtual 59, (0, 0, 0, 1, [(11, 99)])), (381, 1, .aload_n 2, x0), (382, 1, .aload_n 0, x0), (383, 1, .iload_n 3, x0), (384, 1, .iconst 1, (1, 0, 0, 0, [])), (385, 1, .iadd, x0), (386, 1, .iaload, x0), (387, 3, .invokevirtual 62, (0, 0, 0, 1, [(12, 155)])), (390, 3, .if_icmp .eq 361, (0, 0, 751, 0, [])), (393, 1, .iconst 0, x0), (394, 1, .ireturn, x0), (395, 1, .aload_n 1, x0), (396, 1, .aload_n 0, x0), (397, 1, .iload_n 3, x0), (398, 1, .iconst 1, (1, 0, 0, 0, [])), (399, 1, .iadd, x0), (400, 1, .iaload, x0), (401, 3, .invokevirtual 63, (0, 0, 0, 1, [(11, 100)])), (404, 1, .aload_n 2, x0), (405, 1, .aload_n 0, x0), (406, 1, .iload_n 3, x0), (407, 1, .iconst 1, (1, 0, 0, 0, [])), (408, 1, .iadd, x0), (409, 1, .iaload, x0), (410, 3, .invokevirtual 66, (0, 0, 0, 1, [(12, 159)])), (413, 3, .if_icmp .eq 338, (0, 0, 751, 0, [])), (416, 1, .iconst 0, x0), (417, 1, .ireturn, x0), (418, 1, .aload_n 1, x0), (419, 3, .invokevirtual 67, (0, 0, 0, 0, [(11, 101)])), (422, 1, .aload_n 2, x0), (423, 3, .invokevirtual 70, (0, 0, 0, 0, [(12, 162)])), (426, 3, .if_icmp .eq 325, (0, 0, 751, 0, [])), (429, 1, .iconst 0, x0), (430, 1, .ireturn, x0), (431, 1, .aload_n 1, x0), (432, 3, .invokevirtual 71, (0, 0, 0, 0, [(11, 102)])), (435, 1, .aload_n 2, x0), (436, 3, .invokevirtual 74, (0, 0, 0, 0, [(12, 164)])), (439, 3, .if_icmp .eq 312, (0, 0, 751, 0, [])), (442, 1, .iconst 0, x0), (443, 1, .ireturn, x0), (444, 1, .aload_n 1, x0), (445, 1, .aload_n 0, x0), (446, 1, .iload_n 3, x0), (447, 1, .iconst 1, (1, 0, 0, 0, [])), (448, 1, .iadd, x0), (449, 1, .iaload, x0), (450, 3, .invokevirtual 75, (0, 0, 0, 1, [(11, 103)])), (453, 1, .aload_n 2, x0), (454, 1, .aload_n 0, x0), (455, 1, .iload_n 3, x0), (456, 1, .iconst 1, (1, 0, 0, 0, [])), (457, 1, .iadd, x0), (458, 1, .iaload, x0), (459, 3, .invokevirtual 78, (0, 0, 0, 1, [(12, 167)])), (462, 3, .if_icmp .eq 289, (0, 0, 751, 0, [])), (465, 1, .iconst 0, x0), (466, 1, .ireturn, x0), (467, 1, .aload_n 1, x0), (468, 1, .aload_n 0, x0), (469, 1, .iload_n 3, x0), (470, 1, .iconst 1, (1, 0, 0, 0, [])), (471, 1, .iadd, x0), (472, 1, .iaload, x0), (473, 3, .invokevirtual 79, (0, 0, 0, 1, [(11, 104)])), (476, 1, .aload_n 2, x0), (477, 1, .aload_n 0, x0), (478, 1, .iload_n 3, x0), (479, 1, .iconst 1, (1, 0, 0, 0, [])), (480, 1, .iadd, x0), (481, 1, .iaload, x0), (482, 3, .invokevirtual 82, (0, 0, 0, 1, [(12, 170)])), (485, 3, .if_icmp .eq 266, (0, 0, 751, 0, [])), (488, 1, .iconst 0, x0), (489, 1, .ireturn, x0), (490, 1, .aload_n 1, x0), (491, 1, .aload_n 0, x0), (492, 1, .iload_n 3, x0), (493, 1, .iconst 1, (1, 0, 0, 0, [])), (494, 1, .iadd, x0), (495, 1, .iaload, x0), (496, 3, .invokevirtual 83, (0, 0, 0, 1, [(11, 105)])), (499, 1, .aload_n 2, x0), (500, 1, .aload_n 0, x0), (501, 1, .iload_n 3, x0), (502, 1, .iconst 1, (1, 0, 0, 0, [])), (503, 1, .iadd, x0), (504, 1, .iaload, x0), (505, 3, .invokevirtual 86, (0, 0, 0, 1, [(12, 172)])), (508, 3, .if_icmp .eq 243, (0, 0, 751, 0, [])), (511, 1, .iconst 0, x0), (512, 1, .ireturn, x0), (513, 1, .aload_n 1, x0), (514, 1, .aload_n 0, x0), (515, 1, .iload_n 3, x0), (516, 1, .iconst 1, (1, 0, 0, 0, [])), (517, 1, .iadd, x0), (518, 1, .iaload, x0), (519, 1, .aload_n 0, x0), (520, 1, .iload_n 3, x0), (521, 1, .iconst 2, (2, 0, 0, 0, [])), (522, 1, .iadd, x0), (523, 1, .iaload, x0), (524, 3, .invokevirtual 87, (0, 0, 0, 2, [(11, 106)])), (527, 1, .aload_n 2, x0), (528, 1, .aload_n 0, x0), (529, 1, .iload_n 3, x0), (530, 1, .iconst 1, (1, 0, 0, 0, [])), (531, 1, .iadd, x0), (532, 1, .iaload, x0), (533, 1, .aload_n 0, x0), (534, 1, .iload_n 3, x0), (535, 1, .iconst 2, (2, 0, 0, 0, [])), (536, 1, .iadd, x0), (537, 1, .iaload, x0), (538, 3, .invokevirtual 90, (0, 0, 0, 2, [(12, 178)])), (541, 3, .if_icmp .eq 210, (0, 0, 751, 0, [])), (544, 1, .iconst 0, x0), (545, 1, .ireturn, x0), (546, 1, .aload_n 1, x0), (547, 1, .aload_n 0, x0), (548, 1, .iload_n 3, x0), (549, 1, .iconst 1, (1, 0, 0, 0, [])), (550, 1, .iadd, x0), (551, 1, .iaload, x0), (552, 3, .invokevirtual 91, (0, 0, 0, 1, [(11, 107)])), (555, 1, .aload_n 2, x0), (556, 1, .aload_n 0, x0), (557, 1, .iload_n 3, x0), (558, 1, .iconst 1, (1, 0, 0, 0, [])), (559, 1, .iadd, x0), (560, 1, .iaload, x0), (561, 3, .invokevirtual 94, (0, 0, 0, 1, [(12, 179)])), (564, 3, .if_icmp .eq 187, (0, 0, 751, 0, [])), (567, 1, .iconst 0, x0), (568, 1, .ireturn, x0), (569, 1, .aload_n 1, x0), (570, 1, .aload_n 0, x0), (571, 1, .iload_n 3, x0), (572, 1, .iconst 1, (1, 0, 0, 0, [])), (573, 1, .iadd, x0), (574, 1, .iaload, x0), (575, 1, .aload_n 0, x0), (576, 1, .iload_n 3, x0), (577, 1, .iconst 2, (2, 0, 0, 0, [])), (578, 1, .iadd, x0), (579, 1, .iaload, x0), (580, 3, .invokevirtual 95, (0, 0, 0, 2, [(11, 108)])), (583, 1, .aload_n 2, x0), (584, 1, .aload_n 0, x0), (585, 1, .iload_n 3, x0), (586, 1, .iconst 1, (1, 0, 0, 0, [])), (587, 1, .iadd, x0), (588, 1, .iaload, x0), (589, 1, .aload_n 0, x0), (590, 1, .iload_n 3, x0), (591, 1, .iconst 2, (2, 0, 0, 0, [])), (592, 1, .iadd, x0), (593, 1, .iaload, x0), (594, 3, .invokevirtual 98, (0, 0, 0, 2, [(12, 181)])), (597, 3, .if_icmp .eq 154, (0, 0, 751, 0, [])), (600, 1, .iconst 0, x0), (601, 1, .ireturn, x0), (602, 1, .aload_n 1, x0), (603, 1, .aload_n 0, x0), (604, 1, .iload_n 3, x0), (605, 1, .iconst 1, (1, 0, 0, 0, [])), (606, 1, .iadd, x0), (607, 1, .iaload, x0), (608, 1, .aload_n 0, x0), (609, 1, .iload_n 3, x0), (610, 1, .iconst 2, (2, 0, 0, 0, [])), (611, 1, .iadd, x0), (612, 1, .iaload, x0), (613, 3, .invokevirtual 99, (0, 0, 0, 2, [(11, 109)])), (616, 1, .aload_n 2, x0), (617, 1, .aload_n 0, x0), (618, 1, .iload_n 3, x0), (619, 1, .iconst 1, (1, 0, 0, 0, [])), (620, 1, .iadd, x0), (621, 1, .iaload, x0), (622, 1, .aload_n 0, x0), (623, 1, .iload_n 3, x0), (624, 1, .iconst 2, (2, 0, 0, 0, [])), (625, 1, .iadd, x0), (626, 1, .iaload, x0), (627, 3, .invokevirtual 102, (0, 0, 0, 2, [(12, 189)])), (630, 3, .if_icmp .eq 121, (0, 0, 751, 0, [])), (633, 1, .iconst 0, x0), (634, 1, .ireturn, x0), (635, 1, .aload_n 1, x0), (636, 1, .aload_n 0, x0), (637, 1, .iload_n 3, x0), (638, 1, .iconst 1, (1, 0, 0, 0, [])), (639, 1, .iadd, x0), (640, 1, .iaload, x0), (641, 1, .aload_n 0, x0), (642, 1, .iload_n 3, x0), (643, 1, .iconst 2, (2, 0, 0, 0, [])), (644, 1, .iadd, x0), (645, 1, .iaload, x0), (646, 1, .aload_n 0, x0), (647, 1, .iload_n 3, x0), (648, 1, .iconst 3, (3, 0, 0, 0, [])), (649, 1, .iadd, x0), (650, 1, .iaload, x0), (651, 1, .aload_n 0, x0), (652, 1, .iload_n 3, x0), (653, 1, .iconst 4, (4, 0, 0, 0, [])), (654, 1, .iadd, x0), (655, 1, .iaload, x0), (656, 3, .invokevirtual 103, (0, 0, 0, 4, [(11, 110)])), (659, 1, .aload_n 2, x0), (660, 1, .aload_n 0, x0), (661, 1, .iload_n 3, x0), (662, 1, .iconst 1, (1, 0, 0, 0, [])), (663, 1, .iadd, x0), (664, 1, .iaload, x0), (665, 1, .aload_n 0, x0), (666, 1, .iload_n 3, x0), (667, 1, .iconst 2, (2, 0, 0, 0, [])), (668, 1, .iadd, x0), (669, 1, .iaload, x0), (670, 1, .aload_n 0, x0), (671, 1, .iload_n 3, x0), (672, 1, .iconst 3, (3, 0, 0, 0, [])), (673, 1, .iadd, x0), (674, 1, .iaload, x0), (675, 1, .aload_n 0, x0), (676, 1, .iload_n 3, x0), (677, 1, .iconst 4, (4, 0, 0, 0, [])), (678, 1, .iadd, x0), (679, 1, .iaload, x0), (680, 3, .invokevirtual 107, (0, 0, 0, 4, [(12, 191)])), (683, 3, .if_icmp .eq 68, (0, 0, 751, 0, [])), (686, 1, .iconst 0, x0), (687, 1, .ireturn, x0), (688, 1, .aload_n 1, x0), (689, 3, .invokevirtual 108, (0, 0, 0, 0, [(11, 111)])), (692, 1, .aload_n 2, x0), (693, 3, .invokevirtual 111, (0, 0, 0, 0, [(12, 192)])), (696, 3, .if_icmp .eq 55, (0, 0, 751, 0, [])), (699, 1, .iconst 0, x0), (700, 1, .ireturn, x0), (701, 1, .aload_n 1, x0), (702, 3, .invokevirtual 112, (0, 0, 0, 0, [(11, 112)])), (705, 1, .aload_n 2, x0), (706, 3, .invokevirtual 115, (0, 0, 0, 0, [(12, 193)])), (709, 3, .if_icmp .eq 42, (0, 0, 751, 0, [])), (712, 1, .iconst 0, x0), (713, 1, .ireturn, x0), (714, 1, .aload_n 1, x0), (715, 1, .aload_n 0, x0), (716, 1, .iload_n 3, x0), (717, 1, .iconst 1, (1, 0, 0, 0, [])), (718, 1, .iadd, x0), (719, 1, .iaload, x0), (720, 3, .invokevirtual 116, (0, 0, 0, 1, [(11, 113)])), (723, 1, .aload_n 2, x0), (724, 1, .aload_n 0, x0), (725, 1, .iload_n 3, x0), (726, 1, .iconst 1, (1, 0, 0, 0, [])), (727, 1, .iadd, x0), (728, 1, .iaload, x0), (729, 3, .invokevirtual 119, (0, 0, 0, 1, [(12, 195)])), (732, 3, .if_icmp .eq 19, (0, 0, 751, 0, [])), (735, 1, .iconst 0, x0), (736, 1, .ireturn, x0), (737, 1, .aload_n 1, x0), (738, 3, .invokevirtual 120, (0, 0, 0, 0, [(11, 114)])), (741, 1, .aload_n 2, x0), (742, 3, .invokevirtual 124, (0, 0, 0, 0, [(12, 198)])), (745, 1, .lcmp, x0), (746, 3, .ifCond .eq 5, (0, 0, 751, 0, [])), (749, 1, .iconst 0, x0), (750, 1, .ireturn, x0), (751, 3, .iinc 3 5, (5, 0, 3, 0, [])), (754, 3, .goto (-736), (0, 0, 18, 0, [])), (757, 1, .iconst 1, (1, 0, 0, 0, [])), (758, 1, .ireturn, x0)]
theorem de_202 : (op_202.all fun e => decide (decode code e.1 = .ok (e.2.2.1, e.2.1))) = true := by decide +kernel
def oT_0 : List (List (Nat × OpE)) := [op_0, op_1, op_2, op_3, op_4, op_5, op_6, op_7, op_8, op_9, op_10, op_11, op_12, op_13, op_14, op_15, op_16, op_17, op_18, op_19, op_20, op_21, op_22, op_23, op_24, op_25, op_26, op_27, op_28, op_29, op_30, op_31, op_32, op_33, op_34, op_35, op_36, op_37, op_38, op_39, op_40, op_41, op_42, op_43, op_44, op_45, op_46, op_47, op_48, op_49]
def oT_1 : List (List (Nat × OpE)) := [op_50, op_51, op_52, op_53, op_54, op_55, op_56, op_57, op_58, op_59, op_60, op_61, op_62, op_63, op_64, op_65, op_66, op_67, op_68, op_69, op_70, op_71, op_72, op_73, op_74, op_75, op_76, op_77, op_78, op_79, op_80, op_81, op_82, op_83, op_84, op_85, op_86, op_87, op_88, op_89, op_90, op_91, op_92, op_93, op_94, op_95, op_96, op_97, op_98, op_99]
def oT_2 : List (List (Nat × OpE)) := [op_100, op_101, op_102, op_103, op_104, op_105, op_106, op_107, op_108, op_109, op_110, op_111, op_112, op_113, op_114, op_115, op_116, op_117, op_118, op_119, op_120, op_121, op_122, op_123, op_124, op_125, op_126, op_127, op_128, op_129, op_130, op_131, op_132, op_133, op_134, op_135, op_136, op_137, op_138, op_139, op_140, op_141, op_142, op_143, op_144, op_145, op_146, op_147, op_148, op_149]
def oT_3 : List (List (Nat × OpE)) := [op_150, op_151, op_152, op_153, op_154, op_155, op_156, op_157, op_158, op_159, op_160, op_161, op_162, op_163, op_164, op_165, op_166, op_167, op_168, op_169, op_170, op_171, op_172, op_173, op_174, op_175, op_176, op_177, op_178, op_179, op_180, op_181, op_182, op_183, op_184, op_185, op_186, op_187, op_188, op_189, op_190, op_191, op_192, op_193, op_194, op_195, op_196, op_197, op_198, op_199]
def oT_4 : List (List (Nat × OpE)) := [op_200, op_201, op_202]
def opTab : List (List (Nat × OpE)) := oT_0 ++ oT_1 ++ oT_2 ++ oT_3 ++ oT_4
def opL (k : Nat) : List (Nat × OpE) := opTab.getD k []
def opAt (k pc : Nat) : Option OpE := (opL k).lookup pc
end
section
/-! THE ABSTRACT MACHINE: objects are numbers; a heap is how many there are and how many slots, each one's kind and length, and what ints, longs and references their slots hold. 0 is the script, 1 the class's static row. Kinds: 0 to 12 the classes, 20 int[], 21 long[], 22 byte[], 23 boolean[], 24 Player[], 99 none yet. -/
abbrev AH : Type := (Nat × Nat) × (Nat → Nat × Nat) × (Nat → Nat → Int32) × (Nat → Nat → Int64) × (Nat → Nat → Option Nat)
def AN (h : AH) : Nat := h.1.1
def AT (h : AH) : Nat := h.1.2
def AK (h : AH) : Nat → Nat × Nat := h.2.1
def AI (h : AH) : Nat → Nat → Int32 := h.2.2.1
def AL (h : AH) : Nat → Nat → Int64 := h.2.2.2.1
def AR (h : AH) : Nat → Nat → Option Nat := h.2.2.2.2
def up2 {α : Type} (f : Nat → Nat → α) (i j : Nat) (x : α) : Nat → Nat → α := fun a b => if a = i ∧ b = j then x else f a b
def stI (h : AH) (i j : Nat) (x : Int32) : AH := (h.1, h.2.1, up2 h.2.2.1 i j x, h.2.2.2)
def stL (h : AH) (i j : Nat) (x : Int64) : AH := (h.1, h.2.1, h.2.2.1, up2 h.2.2.2.1 i j x, h.2.2.2.2)
def stR (h : AH) (i j : Nat) (x : Option Nat) : AH := (h.1, h.2.1, h.2.2.1, h.2.2.2.1, up2 h.2.2.2.2 i j x)
def up1 {α : Type} (f : Nat → α) (n : Nat) (x : α) : Nat → α := fun i => if i = n then x else f i
def newO (h : AH) (kd len : Nat) : AH := ((h.1.1 + 1, h.1.2 + len), up1 h.2.1 h.1.1 (kd, len), up1 h.2.2.1 h.1.1 (fun _ => 0), up1 h.2.2.2.1 h.1.1 (fun _ => 0), up1 h.2.2.2.2 h.1.1 (fun _ => none))
abbrev St : Type := Nat × List Value × List Value × AH
abbrev Act : Type := St ⊕ ((Nat × List Value × List Value) ⊕ (Option Value))
abbrev mk0 : Value := .retAddr 0
def isLong (v : Option Value) : Bool := match v with
  | some w => Nat.beq w.category 2
  | none => false
def cln (L : List Value) (i : Nat) : List Value := match i with
  | 0 => L
  | j + 1 => bif isLong L[j]? then L.set j mk0 else L
def sto1 (L : List Value) (i : Nat) (v : Value) : List Value := (cln L i).set i v
def sto2 (L : List Value) (i : Nat) (v : Value) : List Value := ((cln L i).set i v).set (i + 1) mk0
def exL : List Value → List Value
  | [] => []
  | v :: r => bif isLong (some v) then v :: mk0 :: exL r else v :: exL r
def ini (n : Nat) (args : List Value) : List Value := exL args ++ List.replicate (n - (exL args).length) mk0
def nx (pc : Nat) (L S : List Value) (h : AH) : Option Act := some (.inl (pc, L, S, h))
def okC (c k : Nat) : Bool := Nat.beq k c || (Nat.beq c 4 && Nat.beq k 2)
def ftg (c j : Nat) : Nat := match tyT c j with
  | .int => 0
  | .long => 1
  | .boolean => 3
  | _ => 2
def rdf (t : Nat) (h : AH) (i j : Nat) : Value := match t with
  | 0 => .int (AI h i j)
  | 1 => .long (AL h i j)
  | 2 => va_rf (AR h i j)
  | _ => .int (AI h i j)
def isB (x : Int32) : Bool := decide (x = 0) || decide (x = 1)
def wrf (t : Nat) (h : AH) (i j : Nat) (v : Value) : Option AH := match v with
  | .int x => match t with
    | 0 => some (stI h i j x)
    | 3 => if isB x = true then some (stI h i j x) else none
    | _ => none
  | .long x => match t with
    | 1 => some (stL h i j x)
    | _ => none
  | .ref a => match t with
    | 2 => some (stR h i j (some a))
    | _ => none
  | .null => match t with
    | 2 => some (stR h i j none)
    | _ => none
  | _ => none
def tsw (x : Int32) : List (Nat × Nat) → Nat → Nat
  | [], d => d
  | (v, t) :: r, d => if x = Int32.ofNat v then t else tsw x r d
def inR (h : AH) (i : Nat) (x : Int32) : Bool := decide (¬ x < 0) && decide (x.toNatClampNeg < (AK h i).2)
def catOK (l : List Value) : Bool := Nat.ble ((l.map fun v => v.category).sum) 8
def asI (v : Option Value) : Option Int32 := match v with
  | some (.int x) => some x
  | _ => none
def asL (v : Option Value) : Option Int64 := match v with
  | some (.long x) => some x
  | _ => none
def isA (v : Value) : Bool := match v with
  | .ref _ => true
  | .null => true
  | _ => false
def cal (j : Nat) (args rest : List Value) : Option Act := if (catOK rest && Nat.ble (exL args).length (mMax j)) = true then some (.inr (.inl (j, args, rest))) else none
def bin (S : List Value) (pc : Nat) (L : List Value) (h : AH) (f : Int32 → Int32 → Int32) : Option Act := match S with
  | .int y :: .int x :: S' => nx pc L (.int (f x y) :: S') h
  | _ => none
def binL (S : List Value) (pc : Nat) (L : List Value) (h : AH) (f : Int64 → Int64 → Int64) : Option Act := match S with
  | .long y :: .long x :: S' => nx pc L (.long (f x y) :: S') h
  | _ => none
def shL (S : List Value) (pc : Nat) (L : List Value) (h : AH) (f : Int64 → Int32 → Int64) : Option Act := match S with
  | .int y :: .long x :: S' => nx pc L (.long (f x y) :: S') h
  | _ => none
def un1 (S : List Value) (pc : Nat) (L : List Value) (h : AH) (f : Int32 → Value) : Option Act := match S with
  | .int x :: S' => nx pc L (f x :: S') h
  | _ => none
def brI (S : List Value) (L : List Value) (h : AH) (f : Int32 → Nat) : Option Act := match S with
  | .int x :: S' => nx (f x) L S' h
  | _ => none
def brII (S : List Value) (L : List Value) (h : AH) (f : Int32 → Int32 → Nat) : Option Act := match S with
  | .int y :: .int x :: S' => nx (f x y) L S' h
  | _ => none
def loI (i : Nat) (pc : Nat) (L S : List Value) (h : AH) : Option Act := match L[i]? with
  | some (.int x) => nx pc L (.int x :: S) h
  | _ => none
def loL (i : Nat) (pc : Nat) (L S : List Value) (h : AH) : Option Act := match L[i]? with
  | some (.long x) => nx pc L (.long x :: S) h
  | _ => none
def loA (i : Nat) (pc : Nat) (L S : List Value) (h : AH) : Option Act := match L[i]? with
  | some (.ref x) => nx pc L (.ref x :: S) h
  | some .null => nx pc L (.null :: S) h
  | _ => none
def soI (i : Nat) (pc : Nat) (L S : List Value) (h : AH) : Option Act := match S with
  | .int x :: S' => if Nat.blt i L.length = true then nx pc (sto1 L i (.int x)) S' h else none
  | _ => none
def soL (i : Nat) (pc : Nat) (L S : List Value) (h : AH) : Option Act := match S with
  | .long x :: S' => if Nat.blt (i + 1) L.length = true then nx pc (sto2 L i (.long x)) S' h else none
  | _ => none
def soA (i : Nat) (pc : Nat) (L S : List Value) (h : AH) : Option Act := match S with
  | .ref x :: S' => if Nat.blt i L.length = true then nx pc (sto1 L i (.ref x)) S' h else none
  | .null :: S' => if Nat.blt i L.length = true then nx pc (sto1 L i .null) S' h else none
  | _ => none
def ald (S : List Value) (pc : Nat) (L : List Value) (h : AH) (ok : Nat → Bool) (f : Nat → Nat → Value) : Option Act := match S with
  | .int x :: .ref i :: S' => if (ok (AK h i).1 && inR h i x) = true then nx pc L (f i x.toNatClampNeg :: S') h else none
  | _ => none
def ast (S : List Value) (pc : Nat) (L : List Value) (h : AH) (ok : Nat → Bool) (g : Nat → Nat → Value → Option AH) : Option Act := match S with
  | v :: .int x :: .ref i :: S' => if (Nat.ble 2 i && ok (AK h i).1 && inR h i x) = true then (match g i x.toNatClampNeg v with
    | some h' => nx pc L S' h'
    | none => none) else none
  | _ => none
def newA (S : List Value) (pc : Nat) (L : List Value) (h : AH) (kd : Nat) : Option Act := match S with
  | .int x :: S' => if (decide (¬ x < 0) && Nat.ble x.toNatClampNeg 1000000) = true then nx pc L (.ref (AN h) :: S') (newO h kd x.toNatClampNeg) else none
  | _ => none
def retI (k : Nat) (S : List Value) : Option Act := match S with
  | [.int x] => match mRet k with
    | some .int => some (.inr (.inr (some (.int x))))
    | some .boolean => if isB x = true then some (.inr (.inr (some (.int x)))) else none
    | _ => none
  | _ => none
def mmx (S : List Value) (pc : Nat) (L : List Value) (h : AH) (f : Int32 → Int32 → Int32) : Option Act := match S with
  | .int y :: .int x :: S' => if catOK S' = true then nx pc L (.int (f x y) :: S') h else none
  | _ => none
def act (k pc : Nat) (e : OpE) (L S : List Value) (h : AH) : Option Act := match e.2.1 with
  | .iconst _ => nx (pc + e.1) L (.int e.2.2.1 :: S) h
  | .bipush _ => nx (pc + e.1) L (.int e.2.2.1 :: S) h
  | .sipush _ => nx (pc + e.1) L (.int e.2.2.1 :: S) h
  | .ldc _ => nx (pc + e.1) L (.int e.2.2.1 :: S) h
  | .ldc_w _ => nx (pc + e.1) L (.int e.2.2.1 :: S) h
  | .lconst _ => nx (pc + e.1) L (.long e.2.2.2.1 :: S) h
  | .ldc2_w _ => nx (pc + e.1) L (.long e.2.2.2.1 :: S) h
  | .iload i => loI i (pc + e.1) L S h
  | .iload_n i => loI i (pc + e.1) L S h
  | .lload i => loL i (pc + e.1) L S h
  | .lload_n i => loL i (pc + e.1) L S h
  | .aload i => loA i (pc + e.1) L S h
  | .aload_n i => loA i (pc + e.1) L S h
  | .istore i => soI i (pc + e.1) L S h
  | .istore_n i => soI i (pc + e.1) L S h
  | .lstore i => soL i (pc + e.1) L S h
  | .lstore_n i => soL i (pc + e.1) L S h
  | .astore i => soA i (pc + e.1) L S h
  | .astore_n i => soA i (pc + e.1) L S h
  | .iinc _ _ => match L[e.2.2.2.2.1]? with
    | some (.int x) => nx (pc + e.1) (sto1 L e.2.2.2.2.1 (.int (x + e.2.2.1))) S h
    | _ => none
  | .iadd => bin S (pc + e.1) L h (fun x y => x + y)
  | .isub => bin S (pc + e.1) L h (fun x y => x - y)
  | .imul => bin S (pc + e.1) L h (fun x y => x * y)
  | .iand => bin S (pc + e.1) L h (fun x y => x &&& y)
  | .ior => bin S (pc + e.1) L h (fun x y => x ||| y)
  | .ixor => bin S (pc + e.1) L h (fun x y => x ^^^ y)
  | .ishl => bin S (pc + e.1) L h (fun x y => x <<< (y &&& 31))
  | .ishr => bin S (pc + e.1) L h (fun x y => x >>> (y &&& 31))
  | .iushr => bin S (pc + e.1) L h (fun x y => (x.toUInt32 >>> (y.toUInt32 &&& Int32.toUInt32 31)).toInt32)
  | .idiv => match S with
    | .int y :: .int x :: S' => if y = 0 then none else nx (pc + e.1) L (.int (x / y) :: S') h
    | _ => none
  | .irem => match S with
    | .int y :: .int x :: S' => if y = 0 then none else nx (pc + e.1) L (.int (x - x / y * y) :: S') h
    | _ => none
  | .ladd => binL S (pc + e.1) L h (fun x y => x + y)
  | .lmul => binL S (pc + e.1) L h (fun x y => x * y)
  | .land => binL S (pc + e.1) L h (fun x y => x &&& y)
  | .lor => binL S (pc + e.1) L h (fun x y => x ||| y)
  | .ldiv => match S with
    | .long y :: .long x :: S' => if y = 0 then none else nx (pc + e.1) L (.long (x / y) :: S') h
    | _ => none
  | .lrem => match S with
    | .long y :: .long x :: S' => if y = 0 then none else nx (pc + e.1) L (.long (x - x / y * y) :: S') h
    | _ => none
  | .lshl => shL S (pc + e.1) L h (fun x y => x <<< (y.toInt64 &&& 63))
  | .lshr => shL S (pc + e.1) L h (fun x y => x >>> (y.toInt64 &&& 63))
  | .lushr => shL S (pc + e.1) L h (fun x y => (x.toUInt64 >>> (y.toInt64.toUInt64 &&& Int64.toUInt64 63)).toInt64)
  | .lcmp => match S with
    | .long y :: .long x :: S' => nx (pc + e.1) L (.int (lg_cmp x y) :: S') h
    | _ => none
  | .i2l => un1 S (pc + e.1) L h (fun x => .long x.toInt64)
  | .i2b => un1 S (pc + e.1) L h (fun x => .int x.toInt8.toInt32)
  | .l2i => match S with
    | .long x :: S' => nx (pc + e.1) L (.int x.toInt32 :: S') h
    | _ => none
  | .dup => match S with
    | .int x :: S' => nx (pc + e.1) L (.int x :: .int x :: S') h
    | .ref x :: S' => nx (pc + e.1) L (.ref x :: .ref x :: S') h
    | _ => none
  | .ifCond .eq _ => brI S L h (fun x => if x = 0 then e.2.2.2.2.1 else pc + 3)
  | .ifCond .ne _ => brI S L h (fun x => if x = 0 then pc + 3 else e.2.2.2.2.1)
  | .ifCond .lt _ => brI S L h (fun x => if x < 0 then e.2.2.2.2.1 else pc + 3)
  | .ifCond .ge _ => brI S L h (fun x => if x < 0 then pc + 3 else e.2.2.2.2.1)
  | .ifCond .gt _ => brI S L h (fun x => if 0 < x then e.2.2.2.2.1 else pc + 3)
  | .ifCond .le _ => brI S L h (fun x => if 0 < x then pc + 3 else e.2.2.2.2.1)
  | .if_icmp .eq _ => brII S L h (fun x y => if x = y then e.2.2.2.2.1 else pc + 3)
  | .if_icmp .ne _ => brII S L h (fun x y => if x = y then pc + 3 else e.2.2.2.2.1)
  | .if_icmp .lt _ => brII S L h (fun x y => if x < y then e.2.2.2.2.1 else pc + 3)
  | .if_icmp .ge _ => brII S L h (fun x y => if x < y then pc + 3 else e.2.2.2.2.1)
  | .if_icmp .gt _ => brII S L h (fun x y => if y < x then e.2.2.2.2.1 else pc + 3)
  | .if_icmp .le _ => brII S L h (fun x y => if y < x then pc + 3 else e.2.2.2.2.1)
  | .goto _ => nx e.2.2.2.2.1 L S h
  | .ifnull _ => match S with
    | .null :: S' => nx e.2.2.2.2.1 L S' h
    | .ref _ :: S' => nx (pc + 3) L S' h
    | _ => none
  | .ifnonnull _ => match S with
    | .null :: S' => nx (pc + 3) L S' h
    | .ref _ :: S' => nx e.2.2.2.2.1 L S' h
    | _ => none
  | .tableswitch _ _ _ _ => brI S L h (fun x => tsw x e.2.2.2.2.2.2 e.2.2.2.2.1)
  | .getfield _ => match S with
    | .ref i :: S' => if okC e.2.2.2.2.2.1 (AK h i).1 = true then nx (pc + e.1) L (rdf (ftg e.2.2.2.2.2.1 e.2.2.2.2.1) h i e.2.2.2.2.1 :: S') h else none
    | _ => none
  | .putfield _ => match S with
    | v :: .ref i :: S' => if (Nat.ble 2 i && okC e.2.2.2.2.2.1 (AK h i).1) = true then (match wrf (ftg e.2.2.2.2.2.1 e.2.2.2.2.1) h i e.2.2.2.2.1 v with
      | some h' => nx (pc + e.1) L S' h'
      | none => none) else none
    | _ => none
  | .iaload => ald S (pc + e.1) L h (fun k => Nat.beq k 20) (fun i j => .int (AI h i j))
  | .baload => ald S (pc + e.1) L h (fun k => Nat.beq k 22 || Nat.beq k 23) (fun i j => .int (AI h i j))
  | .laload => ald S (pc + e.1) L h (fun k => Nat.beq k 21) (fun i j => .long (AL h i j))
  | .aaload => ald S (pc + e.1) L h (fun k => Nat.beq k 24) (fun i j => va_rf (AR h i j))
  | .iastore => ast S (pc + e.1) L h (fun k => Nat.beq k 20) (fun i j v => match v with
    | .int x => some (stI h i j x)
    | _ => none)
  | .bastore => ast S (pc + e.1) L h (fun k => Nat.beq k 22 || Nat.beq k 23) (fun i j v => match v with
    | .int x => some (stI h i j (bif Nat.beq (AK h i).1 22 then vp_nar .byte x else vp_nar .boolean x))
    | _ => none)
  | .lastore => ast S (pc + e.1) L h (fun k => Nat.beq k 21) (fun i j v => match v with
    | .long x => some (stL h i j x)
    | _ => none)
  | .aastore => ast S (pc + e.1) L h (fun k => Nat.beq k 24) (fun i j v => match v with
    | .ref x => if (Nat.ble 2 x && (Nat.beq (AK h x).1 0 || Nat.beq (AK h x).1 1 || Nat.beq (AK h x).1 2 || Nat.beq (AK h x).1 4 || Nat.beq (AK h x).1 7)) = true then some (stR h i j (some x)) else none
    | _ => none)
  | .arraylength => match S with
    | .ref i :: S' => if Nat.beq (AK h i).1 20 || Nat.beq (AK h i).1 21 || Nat.beq (AK h i).1 24 then nx (pc + e.1) L (.int (Int32.ofNat (AK h i).2) :: S') h else none
    | _ => none
  | .newarray _ => newA S (pc + e.1) L h e.2.2.2.2.1
  | .anewarray _ => newA S (pc + e.1) L h 24
  | .new _ => nx (pc + e.1) L (.ref (AN h) :: S) (newO h e.2.2.2.2.1 (nF e.2.2.2.2.1))
  | .instanceof _ => match S with
    | .ref i :: S' => match e.2.2.2.2.2.2.lookup (AK h i).1 with
      | some r => nx (pc + e.1) L (.int (Int32.ofNat r) :: S') h
      | none => none
    | _ => none
  | .aconst_null => nx (pc + e.1) L (.null :: S) h
  | .getstatic _ => nx (pc + e.1) L (.ref 1 :: S) h
  | .invokevirtual _ => match S.drop e.2.2.2.2.2.1 with
    | .ref i :: S' => match e.2.2.2.2.2.2.lookup (AK h i).1 with
      | some j => cal j (.ref i :: (S.take e.2.2.2.2.2.1).reverse) S'
      | none => none
    | _ => none
  | .invokespecial _ => match S.drop e.2.2.2.2.2.1 with
    | .ref i :: S' => bif Nat.beq e.2.2.2.2.1 9999 then (if catOK S' = true then nx (pc + 3) L S' h else none) else cal e.2.2.2.2.1 (.ref i :: (S.take e.2.2.2.2.2.1).reverse) S'
    | _ => none
  | .invokestatic _ => bif Nat.beq e.2.2.2.2.1 9001 then mmx S (pc + 3) L h (fun x y => if x < y then y else x) else bif Nat.beq e.2.2.2.2.1 9002 then mmx S (pc + 3) L h (fun x y => if y < x then y else x) else if Nat.ble e.2.2.2.2.2.1 S.length = true then cal e.2.2.2.2.1 (S.take e.2.2.2.2.2.1).reverse (S.drop e.2.2.2.2.2.1) else none
  | .ireturn => retI k S
  | .lreturn => match S with
    | [.long x] => if mRet k = some .long then some (.inr (.inr (some (.long x)))) else none
    | _ => none
  | .areturn => match S with
    | [v] => if isA v = true then some (.inr (.inr (some v))) else none
    | _ => none
  | .return_ => match S with
    | [] => some (.inr (.inr none))
    | _ => none
  | _ => none
def exec : Nat → Nat → Nat → Nat → List Value → List Value → AH → Option (Option Value × AH)
  | 0, _, _, _, _, _, _ => none
  | n + 1, d, k, pc, L, S, h => match opAt k pc with
    | none => none
    | some e => match act k pc e L S h with
      | none => none
      | some (.inl q) => exec n d k q.1 q.2.1 q.2.2.1 q.2.2.2
      | some (.inr (.inr v)) => some (v, h)
      | some (.inr (.inl q)) => match d with
        | 0 => none
        | d' + 1 => match exec n d' q.1 0 (ini (mMax q.1) q.2.1) [] h with
          | none => none
          | some r => exec n d k (pc + 3) L (r.1.toList ++ q.2.2) r.2
def castN : List (Nat × Nat) := [(1, 0), (2, 0), (4, 0), (7, 0), (0, 4), (1, 4), (7, 4), (0, 2), (1, 2), (4, 2), (7, 2), (0, 1), (2, 1), (4, 1), (7, 1)]
/-- what the pool says of an instruction, as the tables have it -/
def chkF (k own idx c b : Nat) : Bool := flT.any (fun e => Nat.beq e.2.1 own && Nat.beq e.2.2.1 idx && Nat.beq e.2.2.2.1 c && Nat.beq e.2.2.2.2 b)
def chkP (k own c b : Nat) : Bool := !((TT c b).2.2.2) || (decide ((mName k).name = "<init>") && decide ((TT c b).1 = rcl own))
def chk (k pc : Nat) (e : OpE) : Bool := match e.2.1 with
  | .iconst n => decide (Int32.ofInt n = e.2.2.1) && Nat.beq e.1 1
  | .bipush n => decide ((Int8.ofInt n).toInt32 = e.2.2.1) && Nat.beq e.1 2
  | .sipush n => decide ((Int16.ofInt n).toInt32 = e.2.2.1) && Nat.beq e.1 3
  | .ldc idx => Nat.beq e.1 2 && ldT.any (fun q => Nat.beq q.2.1 (mOwn k) && Nat.beq q.2.2.1 idx && decide (q.2.2.2 = e.2.2.1))
  | .ldc_w idx => Nat.beq e.1 3 && ldT.any (fun q => Nat.beq q.2.1 (mOwn k) && Nat.beq q.2.2.1 idx && decide (q.2.2.2 = e.2.2.1))
  | .ldc2_w idx => Nat.beq e.1 3 && ldT2.any (fun q => Nat.beq q.2.1 (mOwn k) && Nat.beq q.2.2.1 idx && decide (q.2.2.2 = e.2.2.2.1))
  | .lconst n => Nat.beq e.1 1 && decide (Int64.ofNat (n : Nat) = e.2.2.2.1)
  | .iload _ | .lload _ | .aload _ | .istore _ | .lstore _ | .astore _ => Nat.beq e.1 2
  | .iinc i n => Nat.beq e.1 3 && Nat.beq i e.2.2.2.2.1 && decide (Int32.ofInt n = e.2.2.1)
  | .ifCond _ off | .if_icmp _ off | .goto off | .ifnull off | .ifnonnull off => Nat.beq e.1 3 && decide ((pc : Int) + off = (e.2.2.2.2.1 : Int))
  | .tableswitch d lo hi offs => decide ((pc : Int) + d = (e.2.2.2.2.1 : Int)) && decide (0 ≤ lo) && decide (hi < 1000) && decide (e.2.2.2.2.2.2 = (List.range (hi - lo + 1).toNat).map (fun t => (lo.toNat + t, ((pc : Int) + offs.getD t 0).toNat))) && decide (offs.size = (hi - lo + 1).toNat) && decide (lo ≤ hi) && offs.all (fun o => decide (0 ≤ (pc : Int) + o))
  | .getfield idx => Nat.beq e.1 3 && chkF k (mOwn k) idx e.2.2.2.2.2.1 e.2.2.2.2.1
  | .putfield idx => Nat.beq e.1 3 && chkF k (mOwn k) idx e.2.2.2.2.2.1 e.2.2.2.2.1 && chkP k (mOwn k) e.2.2.2.2.2.1 e.2.2.2.2.1
  | .invokevirtual idx => Nat.beq e.1 3 && e.2.2.2.2.2.2.all (fun q => Nat.beq (mArg q.2) e.2.2.2.2.2.1 && (vT.any (fun r => Nat.beq r.2.2.2.1 (mOwn k) && Nat.beq r.2.2.2.2.1 idx && Nat.beq r.2.2.2.2.2.1 q.1 && Nat.beq r.2.2.2.2.2.2 q.2) || uT.any (fun r => Nat.beq (r.getD 5 0) (mOwn k) && Nat.beq (r.getD 6 0) idx && Nat.beq (r.getD 7 0) q.1 && Nat.beq (r.getD 8 0) q.2)))
  | .invokestatic idx => Nat.beq e.1 3 && (bif Nat.beq e.2.2.2.2.1 9001 then mxT.any (fun r => Nat.beq r.2.1 (mOwn k) && Nat.beq r.2.2 idx) else bif Nat.beq e.2.2.2.2.1 9002 then mnT.any (fun r => Nat.beq r.2.1 (mOwn k) && Nat.beq r.2.2 idx) else Nat.beq (mArg e.2.2.2.2.1) e.2.2.2.2.2.1 && (sT.any (fun r => Nat.beq r.2.2.1 (mOwn k) && Nat.beq r.2.2.2.1 idx && Nat.beq r.2.2.2.2 e.2.2.2.2.1) || snT.any (fun r => Nat.beq r.2.2.1 (mOwn k) && Nat.beq r.2.2.2.1 idx && Nat.beq r.2.2.2.2 e.2.2.2.2.1)))
  | .invokespecial idx => Nat.beq e.1 3 && (bif Nat.beq e.2.2.2.2.1 9999 then Nat.beq e.2.2.2.2.2.1 0 && oT.any (fun r => Nat.beq r.2.1 (mOwn k) && Nat.beq r.2.2 idx) else Nat.beq (mArg e.2.2.2.2.1) e.2.2.2.2.2.1 && (cT.any (fun r => Nat.beq r.2.2.1 (mOwn k) && Nat.beq r.2.2.2.1 idx && Nat.beq r.2.2.2.2 e.2.2.2.2.1) || cnT.any (fun r => Nat.beq r.2.2.1 (mOwn k) && Nat.beq r.2.2.2.1 idx && Nat.beq r.2.2.2.2 e.2.2.2.2.1)))
  | .new idx => Nat.beq e.1 3 && nT.any (fun r => Nat.beq r.2.2.1 (mOwn k) && Nat.beq r.2.2.2.1 idx && Nat.beq r.2.2.2.2 e.2.2.2.2.1)
  | .newarray t => Nat.beq e.1 2 && (match t with
    | .int => Nat.beq e.2.2.2.2.1 20
    | .long => Nat.beq e.2.2.2.2.1 21
    | .byte => Nat.beq e.2.2.2.2.1 22
    | .boolean => Nat.beq e.2.2.2.2.1 23
    | _ => false)
  | .anewarray idx => Nat.beq e.1 3 && Nat.beq (mOwn k) 11 && Nat.beq idx 61
  | .instanceof idx => Nat.beq e.1 3 && inT.any (fun r => Nat.beq r.2.1 (mOwn k) && Nat.beq r.2.2.1 idx && e.2.2.2.2.2.2.all (fun q => Nat.blt q.1 13 && ((Nat.beq q.2 1 && (Nat.beq q.1 r.2.2.2 || castY.contains (q.1, r.2.2.2))) || (Nat.beq q.2 0 && castN.contains (q.1, r.2.2.2)))))
  | .getstatic idx => Nat.beq e.1 3 && Nat.beq (mOwn k) 11 && Nat.beq idx 290
  | .areturn => Nat.beq e.1 1 && (match mRet k with
    | some (.object _) => true
    | some (.array _) => true
    | _ => false)
  | .return_ => Nat.beq e.1 1 && (match mRet k with
    | none => true
    | _ => false)
  | _ => Nat.beq e.1 1
def chkL (k : Nat) (l : List (Nat × OpE)) : Bool := l.all (fun e => chk k e.1 e.2)
theorem ck_0 : chkL 0 op_0 = true := by decide +kernel
theorem ck_1 : chkL 1 op_1 = true := by decide +kernel
theorem ck_2 : chkL 2 op_2 = true := by decide +kernel
theorem ck_3 : chkL 3 op_3 = true := by decide +kernel
theorem ck_4 : chkL 4 op_4 = true := by decide +kernel
theorem ck_5 : chkL 5 op_5 = true := by decide +kernel
theorem ck_6 : chkL 6 op_6 = true := by decide +kernel
theorem ck_7 : chkL 7 op_7 = true := by decide +kernel
theorem ck_8 : chkL 8 op_8 = true := by decide +kernel
theorem ck_9 : chkL 9 op_9 = true := by decide +kernel
theorem ck_10 : chkL 10 op_10 = true := by decide +kernel
theorem ck_11 : chkL 11 op_11 = true := by decide +kernel
theorem ck_12 : chkL 12 op_12 = true := by decide +kernel
theorem ck_13 : chkL 13 op_13 = true := by decide +kernel
theorem ck_14 : chkL 14 op_14 = true := by decide +kernel
theorem ck_15 : chkL 15 op_15 = true := by decide +kernel
theorem ck_16 : chkL 16 op_16 = true := by decide +kernel
theorem ck_17 : chkL 17 op_17 = true := by decide +kernel
theorem ck_18 : chkL 18 op_18 = true := by decide +kernel
theorem ck_19 : chkL 19 op_19 = true := by decide +kernel
theorem ck_20 : chkL 20 op_20 = true := by decide +kernel
theorem ck_21 : chkL 21 op_21 = true := by decide +kernel
theorem ck_22 : chkL 22 op_22 = true := by decide +kernel
theorem ck_23 : chkL 23 op_23 = true := by decide +kernel
theorem ck_24 : chkL 24 op_24 = true := by decide +kernel
theorem ck_25 : chkL 25 op_25 = true := by decide +kernel
theorem ck_26 : chkL 26 op_26 = true := by decide +kernel
theorem ck_27 : chkL 27 op_27 = true := by decide +kernel
theorem ck_28 : chkL 28 op_28 = true := by decide +kernel
theorem ck_29 : chkL 29 op_29 = true := by decide +kernel
theorem ck_30 : chkL 30 op_30 = true := by decide +kernel
theorem ck_31 : chkL 31 op_31 = true := by decide +kernel
theorem ck_32 : chkL 32 op_32 = true := by decide +kernel
theorem ck_33 : chkL 33 op_33 = true := by decide +kernel
theorem ck_34 : chkL 34 op_34 = true := by decide +kernel
theorem ck_35 : chkL 35 op_35 = true := by decide +kernel
theorem ck_36 : chkL 36 op_36 = true := by decide +kernel
theorem ck_37 : chkL 37 op_37 = true := by decide +kernel
theorem ck_38 : chkL 38 op_38 = true := by decide +kernel
theorem ck_39 : chkL 39 op_39 = true := by decide +kernel
theorem ck_40 : chkL 40 op_40 = true := by decide +kernel
theorem ck_41 : chkL 41 op_41 = true := by decide +kernel
theorem ck_42 : chkL 42 op_42 = true := by decide +kernel
theorem ck_43 : chkL 43 op_43 = true := by decide +kernel
theorem ck_44 : chkL 44 op_44 = true := by decide +kernel
theorem ck_45 : chkL 45 op_45 = true := by decide +kernel
theorem ck_46 : chkL 46 op_46 = true := by decide +kernel
theorem ck_47 : chkL 47 op_47 = true := by decide +kernel
theorem ck_48 : chkL 48 op_48 = true := by decide +kernel
theorem ck_49 : chkL 49 op_49 = true := by decide +kernel
theorem ck_50 : chkL 50 op_50 = true := by decide +kernel
theorem ck_51 : chkL 51 op_51 = true := by decide +kernel
theorem ck_52 : chkL 52 op_52 = true := by decide +kernel
theorem ck_53 : chkL 53 op_53 = true := by decide +kernel
theorem ck_54 : chkL 54 op_54 = true := by decide +kernel
theorem ck_55 : chkL 55 op_55 = true := by decide +kernel
theorem ck_56 : chkL 56 op_56 = true := by decide +kernel
theorem ck_57 : chkL 57 op_57 = true := by decide +kernel
theorem ck_58 : chkL 58 op_58 = true := by decide +kernel
theorem ck_59 : chkL 59 op_59 = true := by decide +kernel
theorem ck_60 : chkL 60 op_60 = true := by decide +kernel
theorem ck_61 : chkL 61 op_61 = true := by decide +kernel
theorem ck_62 : chkL 62 op_62 = true := by decide +kernel
theorem ck_63 : chkL 63 op_63 = true := by decide +kernel
theorem ck_64 : chkL 64 op_64 = true := by decide +kernel
theorem ck_65 : chkL 65 op_65 = true := by decide +kernel
theorem ck_66 : chkL 66 op_66 = true := by decide +kernel
theorem ck_67 : chkL 67 op_67 = true := by decide +kernel
theorem ck_68 : chkL 68 op_68 = true := by decide +kernel
theorem ck_69 : chkL 69 op_69 = true := by decide +kernel
theorem ck_70 : chkL 70 op_70 = true := by decide +kernel
theorem ck_71 : chkL 71 op_71 = true := by decide +kernel
theorem ck_72 : chkL 72 op_72 = true := by decide +kernel
theorem ck_73 : chkL 73 op_73 = true := by decide +kernel
theorem ck_74 : chkL 74 op_74 = true := by decide +kernel
theorem ck_75 : chkL 75 op_75 = true := by decide +kernel
theorem ck_76 : chkL 76 op_76 = true := by decide +kernel
theorem ck_77 : chkL 77 op_77 = true := by decide +kernel
theorem ck_78 : chkL 78 op_78 = true := by decide +kernel
theorem ck_79 : chkL 79 op_79 = true := by decide +kernel
theorem ck_80 : chkL 80 op_80 = true := by decide +kernel
theorem ck_81 : chkL 81 op_81 = true := by decide +kernel
theorem ck_82 : chkL 82 op_82 = true := by decide +kernel
theorem ck_83 : chkL 83 op_83 = true := by decide +kernel
theorem ck_84 : chkL 84 op_84 = true := by decide +kernel
theorem ck_85 : chkL 85 op_85 = true := by decide +kernel
theorem ck_86 : chkL 86 op_86 = true := by decide +kernel
theorem ck_87 : chkL 87 op_87 = true := by decide +kernel
theorem ck_88 : chkL 88 op_88 = true := by decide +kernel
theorem ck_89 : chkL 89 op_89 = true := by decide +kernel
theorem ck_90 : chkL 90 op_90 = true := by decide +kernel
theorem ck_91 : chkL 91 op_91 = true := by decide +kernel
theorem ck_92 : chkL 92 op_92 = true := by decide +kernel
theorem ck_93 : chkL 93 op_93 = true := by decide +kernel
theorem ck_94 : chkL 94 op_94 = true := by decide +kernel
theorem ck_95 : chkL 95 op_95 = true := by decide +kernel
theorem ck_96 : chkL 96 op_96 = true := by decide +kernel
theorem ck_97 : chkL 97 op_97 = true := by decide +kernel
theorem ck_98 : chkL 98 op_98 = true := by decide +kernel
theorem ck_99 : chkL 99 op_99 = true := by decide +kernel
theorem ck_100 : chkL 100 op_100 = true := by decide +kernel
theorem ck_101 : chkL 101 op_101 = true := by decide +kernel
theorem ck_102 : chkL 102 op_102 = true := by decide +kernel
theorem ck_103 : chkL 103 op_103 = true := by decide +kernel
theorem ck_104 : chkL 104 op_104 = true := by decide +kernel
theorem ck_105 : chkL 105 op_105 = true := by decide +kernel
theorem ck_106 : chkL 106 op_106 = true := by decide +kernel
theorem ck_107 : chkL 107 op_107 = true := by decide +kernel
theorem ck_108 : chkL 108 op_108 = true := by decide +kernel
theorem ck_109 : chkL 109 op_109 = true := by decide +kernel
theorem ck_110 : chkL 110 op_110 = true := by decide +kernel
theorem ck_111 : chkL 111 op_111 = true := by decide +kernel
theorem ck_112 : chkL 112 op_112 = true := by decide +kernel
theorem ck_113 : chkL 113 op_113 = true := by decide +kernel
theorem ck_114 : chkL 114 op_114 = true := by decide +kernel
theorem ck_115 : chkL 115 op_115 = true := by decide +kernel
theorem ck_116 : chkL 116 op_116 = true := by decide +kernel
theorem ck_117 : chkL 117 op_117 = true := by decide +kernel
theorem ck_118 : chkL 118 op_118 = true := by decide +kernel
theorem ck_119 : chkL 119 op_119 = true := by decide +kernel
theorem ck_120 : chkL 120 op_120 = true := by decide +kernel
theorem ck_121 : chkL 121 op_121 = true := by decide +kernel
theorem ck_122 : chkL 122 op_122 = true := by decide +kernel
theorem ck_123 : chkL 123 op_123 = true := by decide +kernel
theorem ck_124 : chkL 124 op_124 = true := by decide +kernel
theorem ck_125 : chkL 125 op_125 = true := by decide +kernel
theorem ck_126 : chkL 126 op_126 = true := by decide +kernel
theorem ck_127 : chkL 127 op_127 = true := by decide +kernel
theorem ck_128 : chkL 128 op_128 = true := by decide +kernel
theorem ck_129 : chkL 129 op_129 = true := by decide +kernel
theorem ck_130 : chkL 130 op_130 = true := by decide +kernel
theorem ck_131 : chkL 131 op_131 = true := by decide +kernel
theorem ck_132 : chkL 132 op_132 = true := by decide +kernel
theorem ck_133 : chkL 133 op_133 = true := by decide +kernel
theorem ck_134 : chkL 134 op_134 = true := by decide +kernel
theorem ck_135 : chkL 135 op_135 = true := by decide +kernel
theorem ck_136 : chkL 136 op_136 = true := by decide +kernel
theorem ck_137 : chkL 137 op_137 = true := by decide +kernel
theorem ck_138 : chkL 138 op_138 = true := by decide +kernel
theorem ck_139 : chkL 139 op_139 = true := by decide +kernel
theorem ck_140 : chkL 140 op_140 = true := by decide +kernel
theorem ck_141 : chkL 141 op_141 = true := by decide +kernel
theorem ck_142 : chkL 142 op_142 = true := by decide +kernel
theorem ck_143 : chkL 143 op_143 = true := by decide +kernel
theorem ck_144 : chkL 144 op_144 = true := by decide +kernel
theorem ck_145 : chkL 145 op_145 = true := by decide +kernel
theorem ck_146 : chkL 146 op_146 = true := by decide +kernel
theorem ck_147 : chkL 147 op_147 = true := by decide +kernel
theorem ck_148 : chkL 148 op_148 = true := by decide +kernel
theorem ck_149 : chkL 149 op_149 = true := by decide +kernel
theorem ck_150 : chkL 150 op_150 = true := by decide +kernel
theorem ck_151 : chkL 151 op_151 = true := by decide +kernel
theorem ck_152 : chkL 152 op_152 = true := by decide +kernel
theorem ck_153 : chkL 153 op_153 = true := by decide +kernel
theorem ck_154 : chkL 154 op_154 = true := by decide +kernel
theorem ck_155 : chkL 155 op_155 = true := by decide +kernel
theorem ck_156 : chkL 156 op_156 = true := by decide +kernel
theorem ck_157 : chkL 157 op_157 = true := by decide +kernel
theorem ck_158 : chkL 158 op_158 = true := by decide +kernel
theorem ck_159 : chkL 159 op_159 = true := by decide +kernel
theorem ck_160 : chkL 160 op_160 = true := by decide +kernel
theorem ck_161 : chkL 161 op_161 = true := by decide +kernel
theorem ck_162 : chkL 162 op_162 = true := by decide +kernel
theorem ck_163 : chkL 163 op_163 = true := by decide +kernel
theorem ck_164 : chkL 164 op_164 = true := by decide +kernel
theorem ck_165 : chkL 165 op_165 = true := by decide +kernel
theorem ck_166 : chkL 166 op_166 = true := by decide +kernel
theorem ck_167 : chkL 167 op_167 = true := by decide +kernel
theorem ck_168 : chkL 168 op_168 = true := by decide +kernel
theorem ck_169 : chkL 169 op_169 = true := by decide +kernel
theorem ck_170 : chkL 170 op_170 = true := by decide +kernel
theorem ck_171 : chkL 171 op_171 = true := by decide +kernel
theorem ck_172 : chkL 172 op_172 = true := by decide +kernel
theorem ck_173 : chkL 173 op_173 = true := by decide +kernel
theorem ck_174 : chkL 174 op_174 = true := by decide +kernel
theorem ck_175 : chkL 175 op_175 = true := by decide +kernel
theorem ck_176 : chkL 176 op_176 = true := by decide +kernel
theorem ck_177 : chkL 177 op_177 = true := by decide +kernel
theorem ck_178 : chkL 178 op_178 = true := by decide +kernel
theorem ck_179 : chkL 179 op_179 = true := by decide +kernel
theorem ck_180 : chkL 180 op_180 = true := by decide +kernel
theorem ck_181 : chkL 181 op_181 = true := by decide +kernel
theorem ck_182 : chkL 182 op_182 = true := by decide +kernel
theorem ck_183 : chkL 183 op_183 = true := by decide +kernel
theorem ck_184 : chkL 184 op_184 = true := by decide +kernel
theorem ck_185 : chkL 185 op_185 = true := by decide +kernel
theorem ck_186 : chkL 186 op_186 = true := by decide +kernel
theorem ck_187 : chkL 187 op_187 = true := by decide +kernel
theorem ck_188 : chkL 188 op_188 = true := by decide +kernel
theorem ck_189 : chkL 189 op_189 = true := by decide +kernel
theorem ck_190 : chkL 190 op_190 = true := by decide +kernel
theorem ck_191 : chkL 191 op_191 = true := by decide +kernel
theorem ck_192 : chkL 192 op_192 = true := by decide +kernel
theorem ck_193 : chkL 193 op_193 = true := by decide +kernel
theorem ck_194 : chkL 194 op_194 = true := by decide +kernel
theorem ck_195 : chkL 195 op_195 = true := by decide +kernel
theorem ck_196 : chkL 196 op_196 = true := by decide +kernel
theorem ck_197 : chkL 197 op_197 = true := by decide +kernel
theorem ck_198 : chkL 198 op_198 = true := by decide +kernel
theorem ck_199 : chkL 199 op_199 = true := by decide +kernel
theorem ck_200 : chkL 200 op_200 = true := by decide +kernel
theorem ck_201 : chkL 201 op_201 = true := by decide +kernel
theorem ck_202 : chkL 202 op_202 = true := by decide +kernel
end
section
/-! THE ABSTRACT HEAP IN THE MACHINE'S: object i is at adr g i; g: where the made objects begin, where the script is, where the static row is -/
def adr (g : Nat × Nat × Nat) (i : Nat) : Nat := if i = 0 then g.2.1 else if i = 1 then g.2.2 else g.1 + (i - 2)
def rv (g : Nat × Nat × Nat) (v : Value) : Value := match v with
  | .ref i => .ref (adr g i)
  | w => w
def fac (j : Nat) : Int32 := ([1, 1, 2, 6, 24, 120, 720, 5040, 40320, 362880, 3628800] : List Int32).getD j 0
def ce (g : Nat × Nat × Nat) (cA : Nat → ClassId) (h : AH) (i : Nat) : va_E :=
  if (AK h i).1 < 13 then .inr ((AK h i).1, (List.range (nF (AK h i).1)).map (fun j => rv g (rdf (ftg (AK h i).1 j) h i j)))
  else if (AK h i).1 = 21 then .inl (cA 1, (AK h i).2, .inr (.inl (AL h i)))
  else if (AK h i).1 = 24 then .inl (cA 4, (AK h i).2, .inr (.inr (.inr (.inr (fun j => (AR h i j).map (adr g))))))
  else .inl (cA ((AK h i).1 - 20), (AK h i).2, .inl (AI h i))
def tyl (cA : Nat → ClassId) : List (ClassId × FieldType) := [(cA 0, .int), (cA 1, .long), (cA 2, .byte), (cA 3, .boolean), (cA 4, .object "CutsOrFast$Player")]
def wsO (g : Nat × Nat × Nat) (cA : Nat → ClassId) (h : AH) : va_W := (List.range (AN h - 2)).map (fun q => (g.1 + q, ce g cA h (q + 2)))
def Aw (g : Nat × Nat × Nat) : Nat → Prop := fun q => g.1 ≤ q
theorem adr_big (g : Nat × Nat × Nat) {i : Nat} (h : 2 ≤ i) : adr g i = g.1 + (i - 2) := by
  unfold adr
  rw [if_neg (by omega), if_neg (by omega)]
theorem adr_inj (g : Nat × Nat × Nat) {i j : Nat} (h : 2 ≤ i) (h2 : 2 ≤ j) (e : adr g i = adr g j) : i = j := by
  rw [adr_big g h, adr_big g h2] at e
  omega
theorem wsO_at (g : Nat × Nat × Nat) (cA : Nat → ClassId) {h : AH} {i : Nat} (h1 : 2 ≤ i) (h2 : i < AN h) : (wsO g cA h)[i - 2]? = some (adr g i, ce g cA h i) := by
  unfold wsO
  rw [List.getElem?_map, List.getElem?_range (by omega), adr_big g h1]
  simp only [Option.map_some, Nat.sub_add_cancel h1]
theorem wsO_get {g : Nat × Nat × Nat} {cA : Nat → ClassId} {h : AH} {k : Nat} {q : Nat × va_E} (hk : (wsO g cA h)[k]? = some q) : k + 2 < AN h ∧ q = (g.1 + k, ce g cA h (k + 2)) := by
  unfold wsO at hk
  rw [List.getElem?_map] at hk
  have hl : k < AN h - 2 := by
    rcases Nat.lt_or_ge k (AN h - 2) with z | z
    · exact z
    · rw [List.getElem?_eq_none (by rw [List.length_range]; exact z)] at hk
      cases hk
  rw [List.getElem?_range hl] at hk
  exact ⟨by omega, (Option.some.inj hk).symm⟩
theorem wsO_D (g : Nat × Nat × Nat) (cA : Nat → ClassId) (h : AH) : va_D (Aw g) (wsO g cA h) := by
  refine ⟨fun i j p q hp hq e => ?_, fun k q hk => ?_⟩
  · obtain ⟨-, rfl⟩ := wsO_get hp
    obtain ⟨-, rfl⟩ := wsO_get hq
    exact Nat.add_left_cancel e
  · obtain ⟨-, rfl⟩ := wsO_get hk
    exact Nat.le_add_right _ _
theorem ce_same {g : Nat × Nat × Nat} {cA : Nat → ClassId} {h h' : AH} {a : Nat} (eK : AK h' a = AK h a) (eI : AI h' a = AI h a) (eL : AL h' a = AL h a) (eR : AR h' a = AR h a) : ce g cA h' a = ce g cA h a := by
  have er : ∀ t j, rdf t h' a j = rdf t h a j := by
    intro t j
    unfold rdf
    rw [eI, eL, eR]
  unfold ce
  simp only [eK, eI, eL, eR, er]
def Rel (g : Nat × Nat × Nat) (Ls : Nat) (xs : Nat → Int32) (D : va_G) (cA : Nat → ClassId) (H0 : Heap) (h : AH) (H : Heap) (locs : List Loc) : Prop :=
  2 ≤ AN h ∧ va_P D clsL (wsO g cA h) H ∧ va_S (Aw g) H0 H locs ∧ H.size = g.1 + (AN h - 2) ∧ (∀ i, AN h ≤ i → (AK h i).1 = 99) ∧ AK h 0 = (20, Ls) ∧ AK h 1 = (20, 11) ∧ (∀ j, j < Ls → AI h 0 j = xs j) ∧ ∀ j, j < 11 → AI h 1 j = fac j
section RELS
variable {g : Nat × Nat × Nat} {Ls : Nat} {xs : Nat → Int32} {D : va_G} {cA : Nat → ClassId} {H0 H H1 : Heap} {h h' : AH} {locs : List Loc}
theorem Rel.at {i : Nat} (hR : Rel g Ls xs D cA H0 h H locs) (h1 : 2 ≤ i) (h2 : (AK h i).1 ≠ 99) : (wsO g cA h)[i - 2]? = some (adr g i, ce g cA h i) := by
  refine wsO_at g cA h1 (Nat.lt_of_not_le fun q => h2 (hR.2.2.2.2.1 i q))
theorem Rel.put {i k : Nat} (hR : Rel g Ls xs D cA H0 h H locs) (hi : 2 ≤ i) (eN : AN h' = AN h) (eK : AK h' = AK h) (eI : ∀ a, a ≠ i → AI h' a = AI h a) (eL : ∀ a, a ≠ i → AL h' a = AL h a) (eR : ∀ a, a ≠ i → AR h' a = AR h a)
    (hat : va_at D clsL (adr g i, ce g cA h' i) H1) (z : H1.size = H.size) (oq : ∀ q : Nat, q ≠ adr g i → H1[q]? = H[q]?) : Rel g Ls xs D cA H0 h' H1 (locs ++ [⟨adr g i, k⟩]) := by
  obtain ⟨r1, r2, r3, r4, r5, r6, r7, r8, r9⟩ := hR
  refine ⟨by rw [eN]; exact r1, fun q x hx => ?_, r3.put z oq (by rw [adr_big g hi]; exact Nat.le_add_right _ _), by rw [z, eN]; exact r4, by rw [eN, eK]; exact r5, by rw [eK]; exact r6, by rw [eK]; exact r7, fun j hj => by rw [eI 0 (by omega)]; exact r8 j hj, fun j hj => by rw [eI 1 (by omega)]; exact r9 j hj⟩
  obtain ⟨hq, rfl⟩ := wsO_get hx
  rw [eN] at hq
  have ha : adr g (q + 2) = g.1 + q := adr_big g (by omega)
  by_cases hqi : q + 2 = i
  · subst hqi
    rw [← ha]
    exact hat
  · have h2 := r2 (q + 2 - 2) _ (wsO_at g cA (h := h) (i := q + 2) (by omega) hq)
    rw [ha] at h2
    rw [ce_same (congrFun eK _) (eI _ hqi) (eL _ hqi) (eR _ hqi)]
    exact h2.kept (oq _ (by rw [← ha]; exact fun z => hqi (adr_inj g (by omega) hi z)))
theorem Rel.push {kd len : Nat} (hR : Rel g Ls xs D cA H0 h H locs) (hH0 : g.1 ≤ H0.size) (hat : va_at D clsL (H.size, ce g cA (newO h kd len) (AN h)) H1) (z : H1.size = H.size + 1) (oq : ∀ q : Nat, q < H.size → H1[q]? = H[q]?) : Rel g Ls xs D cA H0 (newO h kd len) H1 locs := by
  obtain ⟨r1, r2, r3, r4, r5, r6, r7, r8, r9⟩ := hR
  have eN : AN (newO h kd len) = AN h + 1 := rfl
  have eK : ∀ a, a ≠ AN h → AK (newO h kd len) a = AK h a := fun a ha => if_neg ha
  have eI : ∀ a, a ≠ AN h → AI (newO h kd len) a = AI h a := fun a ha => if_neg ha
  have eL : ∀ a, a ≠ AN h → AL (newO h kd len) a = AL h a := fun a ha => if_neg ha
  have eR : ∀ a, a ≠ AN h → AR (newO h kd len) a = AR h a := fun a ha => if_neg ha
  refine ⟨by omega, fun q x hx => ?_, ⟨Nat.le_trans r3.1 (by omega), fun q h1 h2 => (oq q (Nat.lt_of_lt_of_le h1 r3.1)).trans (r3.2.1 q h1 h2), r3.2.2⟩, by rw [z, r4, eN]; omega, fun i hi => by rw [eK i (by omega)]; exact r5 i (by omega), by rw [eK 0 (by omega)]; exact r6, by rw [eK 1 (by omega)]; exact r7, fun j hj => by rw [eI 0 (by omega)]; exact r8 j hj, fun j hj => by rw [eI 1 (by omega)]; exact r9 j hj⟩
  obtain ⟨hq, rfl⟩ := wsO_get hx
  rw [eN] at hq
  have ha : adr g (q + 2) = g.1 + q := adr_big g (by omega)
  by_cases hqi : q + 2 = AN h
  · rw [hqi, show g.1 + q = H.size by omega]
    exact hat
  · have h2 := r2 (q + 2 - 2) _ (wsO_at g cA (h := h) (i := q + 2) (by omega) (by omega))
    rw [ha] at h2
    rw [ce_same (eK _ hqi) (eI _ hqi) (eL _ hqi) (eR _ hqi)]
    exact h2.kept (oq _ (by omega))
theorem Rel.next {H2 : Heap} {locs' : List Loc} (hR : Rel g Ls xs D cA H0 h H locs) (hN : Rel g Ls xs D cA H h' H2 []) (hL : ∀ q ∈ locs', Aw g q.base) : Rel g Ls xs D cA H0 h' H2 (locs ++ locs') := by
  obtain ⟨r1, r2, r3, r4, r5, r6, r7, r8, r9⟩ := hN
  obtain ⟨s1, s2, s3, -⟩ := hR
  refine ⟨r1, r2, ⟨Nat.le_trans s3.1 r3.1, fun q h1 h2 => (r3.2.1 q (Nat.lt_of_lt_of_le h1 s3.1) h2).trans (s3.2.1 q h1 h2), fun q hq => ?_⟩, r4, r5, r6, r7, r8, r9⟩
  rcases List.mem_append.mp hq with z | z
  · exact s3.2.2 q z
  · exact hL q z
theorem Rel.self (hR : Rel g Ls xs D cA H0 h H locs) : Rel g Ls xs D cA H h H [] := by
  obtain ⟨r1, r2, r3, r4, r5, r6, r7, r8, r9⟩ := hR
  exact ⟨r1, r2, va_S.rf, r4, r5, r6, r7, r8, r9⟩
end RELS
/-- what holds of a frame's start, whatever its heap's objects are -/
def WF (g : Nat × Nat × Nat) (Ls : Nat) (xs : Nat → Int32) (D : va_G) (cA : Nat → ClassId) (s : State) : Prop :=
  va_K D clsL (tyl cA) s ∧ (∀ e ∈ snT ++ cnT, va_Nw (.methodLinkNest (rcl e.2.2.1) e.2.2.2.1 (mName e.2.2.2.2) "CutsOrFast") s) ∧ (∀ q ∈ castY, va_Nw (.castable (rcl q.1) (rcl q.2)) s) ∧ (∀ q ∈ castN, va_Nc (rcl q.1) (rcl q.2) s) ∧ va_AO "CutsOrFast$Player" s ∧
  va_Z "CutsOrFast" "FACTORIALS" "[I" (.ref g.2.2) (Aw g) s s.heap ∧ va_X g.2.1 Ls xs s s.heap ∧ va_T .int g.2.2 11 (fun j => .int (fac j)) (Aw g) s s.heap ∧ g.2.1 < g.1 ∧ g.2.2 < g.1 ∧ g.1 ≤ s.heap.size
theorem WF.warm {g : Nat × Nat × Nat} {Ls : Nat} {xs : Nat → Int32} {D : va_G} {cA : Nat → ClassId} {s U : State} (h : WF g Ls xs D cA s) (hW : s.WarmedH U.vm) (hz : s.heap.size ≤ U.heap.size) (hq : ∀ q : Nat, q < s.heap.size → ¬ Aw g q → U.heap[q]? = s.heap[q]?) : WF g Ls xs D cA U := by
  obtain ⟨h1, h2, h3, h4, h5, h6, h7, h8, h9, h10, h11⟩ := h
  have hA := hW.alike
  refine ⟨va_K.moved hA h1, fun e he => (h2 e he).warmM hW, fun q hq' => (h3 q hq').warmC hW, fun q hq' => (h4 q hq').moved hA, h5.moved hA, (h6.moved hA).kept (fun a h1 h2 => hq a h1 h2), (h7.moved hA).kept (hq _ (by omega) (Nat.not_le.mpr h9)), (h8.moved hA).kept (fun a h1 h2 => hq a h1 h2), h9, h10, by omega⟩
theorem WF.calling {g : Nat × Nat × Nat} {Ls : Nat} {xs : Nat → Int32} {D : va_G} {cA : Nat → ClassId} {U : State} (h : WF g Ls xs D cA U) (gg : JFrame) (mk : MethodId) (a : Array Value) : WF g Ls xs D cA (U.calling gg mk a) := by
  obtain ⟨h1, h2, h3, h4, h5, h6, h7, h8, h9, h10, h11⟩ := h
  have hA : U.vm.Alike (U.calling gg mk a).vm := Vm.Alike.refl U.vm
  exact ⟨va_K.moved hA h1, fun e he => (h2 e he).same rfl rfl, fun q hq' => (h3 q hq').same rfl rfl, fun q hq' => (h4 q hq').moved hA, h5.moved hA, h6.moved hA, h7.moved hA, h8.moved hA, h9, h10, h11⟩
/-- a method's frame: its code, its class, its words -/
def Cx (p : Program) (s : State) (m : MethodId) (args : Array Value) (meth : Method) (c : Code) (k : Nat) (g : Nat × Nat × Nat) (Ls : Nat) (xs : Nat → Int32) (D : va_G) (cA : Nat → ClassId) : Prop :=
  p.tables.exec = Jvm.exec ∧ c.code = mCode k ∧ c.maxLocals = mMax k ∧ s.vm.findClass (rcl (mOwn k)) = some m.cls ∧ (∀ w ∈ tblG, w.before args s = true) ∧ ((mName k).name = "<init>" → meth.name = "<init>") ∧ meth.sig.returnType = mRet k ∧ meth.locks = false ∧ WF g Ls xs D cA s
/-- the locals -/
def LH (g : Nat × Nat × Nat) (ls : Array Slot) (n : Nat) (L : List Value) : Prop := ls.size = n ∧ lv_wf ls ∧ L.length = n ∧ ∀ (i : Nat) (v : Value), L[i]? = some v → (∀ q, v ≠ .retAddr q) → ls[i]? = some (.val (rv g v))
theorem rv_cat (g : Nat × Nat × Nat) (v : Value) : (rv g v).category = v.category := by
  cases v <;> rfl
theorem rv_map_cat (g : Nat × Nat × Nat) (l : List Value) : ((l.map (rv g)).map fun v => v.category) = l.map fun v => v.category := by
  rw [List.map_map]
  exact List.map_congr_left fun v _ => rv_cat g v
def kpv (g : Nat × Nat × Nat) (i : Nat) (o : Option Value) : Option (Nat × Value) := match o with
  | some (.retAddr _) => none
  | some v => some (i, rv g v)
  | none => none
def asc (g : Nat × Nat × Nat) (L : List Value) : List (Nat × Value) := (List.range L.length).filterMap (fun i => kpv g i L[i]?)
theorem asc_in {g : Nat × Nat × Nat} {L : List Value} {i : Nat} {v : Value} (h : L[i]? = some v) (hv : ∀ q, v ≠ .retAddr q) : (i, rv g v) ∈ asc g L := by
  refine List.mem_filterMap.mpr ⟨i, List.mem_range.mpr (List.getElem?_eq_some_iff.mp h).1, ?_⟩
  rw [h]
  cases v with
  | retAddr q => exact absurd rfl (hv q)
  | _ => rfl
theorem asc_out {g : Nat × Nat × Nat} {L : List Value} {q : Nat × Value} (h : q ∈ asc g L) : ∃ v, L[q.1]? = some v ∧ (∀ z, v ≠ .retAddr z) ∧ q.2 = rv g v := by
  obtain ⟨i, hi, h2⟩ := List.mem_filterMap.mp h
  cases hv : L[i]? with
  | none => rw [hv] at h2; cases h2
  | some v =>
    rw [hv] at h2
    cases v <;> first | cases h2; done | (cases h2; exact ⟨_, hv, fun z e => (by cases e), rfl⟩)
theorem LH.has {g : Nat × Nat × Nat} {ls : Array Slot} {n : Nat} {L : List Value} (h : LH g ls n L) : lv_has ls n (asc g L) := by
  refine ⟨h.1, h.2.1, fun q hq => ?_⟩
  obtain ⟨v, h1, h2, h3⟩ := asc_out hq
  rw [h3]
  exact h.2.2.2 q.1 v h1 h2
theorem cln_len (L : List Value) (i : Nat) : (cln L i).length = L.length := by
  unfold cln
  cases i with
  | zero => rfl
  | succ j =>
    dsimp only
    cases isLong L[j]? <;> simp
theorem cln_at {L : List Value} {i j : Nat} {v : Value} (h : (cln L i)[j]? = some v) (hv : ∀ q, v ≠ .retAddr q) : L[j]? = some v ∧ ¬ (j + 1 = i ∧ v.category = 2) := by
  unfold cln at h
  cases i with
  | zero => exact ⟨h, fun z => by omega⟩
  | succ k =>
    dsimp only at h
    cases hL : isLong L[k]? with
    | true =>
      rw [hL, cond_true, List.getElem?_set] at h
      by_cases hkj : k = j
      · subst hkj
        rw [if_pos rfl] at h
        split at h
        · cases h; exact absurd rfl (hv 0)
        · cases h
      · rw [if_neg hkj] at h
        exact ⟨h, fun z => by omega⟩
    | false =>
      rw [hL, cond_false] at h
      refine ⟨h, fun z => ?_⟩
      have hkj : j = k := by omega
      subst hkj
      rw [h] at hL
      simp [isLong, z.2] at hL
theorem LH.put1 {g : Nat × Nat × Nat} {ls ls' : Array Slot} {n : Nat} {L : List Value} {i : Nat} {v : Value} (h : LH g ls n L) (hh : lv_has ls' n ((i, rv g v) :: (asc g L).filter (fun q => !(q.1 == i) && !(q.1 + 1 == i && q.2.category == 2)))) : LH g ls' n (sto1 L i v) := by
  refine ⟨hh.1, hh.2.1, by unfold sto1; rw [List.length_set, cln_len]; exact h.2.2.1, fun j w hj hw => ?_⟩
  unfold sto1 at hj
  rw [List.getElem?_set] at hj
  by_cases hij : i = j
  · subst hij
    rw [if_pos rfl] at hj
    split at hj
    · cases hj
      exact hh.2.2 _ List.mem_cons_self
    · cases hj
  · rw [if_neg hij] at hj
    obtain ⟨h1, h2⟩ := cln_at hj hw
    refine hh.2.2 (j, rv g w) (List.mem_cons_of_mem _ (List.mem_filter.mpr ⟨asc_in h1 hw, ?_⟩))
    have e1 : (j == i) = false := beq_eq_false_iff_ne.mpr fun z => hij z.symm
    have e2 : (j + 1 == i && (rv g w).category == 2) = false := by
      rw [rv_cat]
      by_cases z : j + 1 = i
      · have : ¬ w.category = 2 := fun y => h2 ⟨z, y⟩
        simp [this]
      · simp [z]
    rw [e1, e2]
    rfl
theorem LH.put2 {g : Nat × Nat × Nat} {ls ls' : Array Slot} {n : Nat} {L : List Value} {i : Nat} {v : Value} (h : LH g ls n L) (hh : lv_has ls' n ((i, rv g v) :: (asc g L).filter (fun q => !(q.1 == i) && (!(q.1 == i + 1) && !(q.1 + 1 == i && q.2.category == 2))))) : LH g ls' n (sto2 L i v) := by
  refine ⟨hh.1, hh.2.1, by unfold sto2; rw [List.length_set, List.length_set, cln_len]; exact h.2.2.1, fun j w hj hw => ?_⟩
  unfold sto2 at hj
  rw [List.getElem?_set] at hj
  by_cases hij2 : i + 1 = j
  · subst hij2
    rw [if_pos rfl] at hj
    split at hj
    · cases hj; exact absurd rfl (hw 0)
    · cases hj
  rw [if_neg hij2, List.getElem?_set] at hj
  by_cases hij : i = j
  · subst hij
    rw [if_pos rfl] at hj
    split at hj
    · cases hj
      exact hh.2.2 _ List.mem_cons_self
    · cases hj
  · rw [if_neg hij] at hj
    obtain ⟨h1, h2⟩ := cln_at hj hw
    refine hh.2.2 (j, rv g w) (List.mem_cons_of_mem _ (List.mem_filter.mpr ⟨asc_in h1 hw, ?_⟩))
    have e1 : (j == i) = false := beq_eq_false_iff_ne.mpr fun z => hij z.symm
    have e3 : (j == i + 1) = false := beq_eq_false_iff_ne.mpr fun z => hij2 z.symm
    have e2 : (j + 1 == i && (rv g w).category == 2) = false := by
      rw [rv_cat]
      by_cases z : j + 1 = i
      · have : ¬ w.category = 2 := fun y => h2 ⟨z, y⟩
        simp [this]
      · simp [z]
    rw [e1, e2, e3]
    rfl
theorem LH.at {g : Nat × Nat × Nat} {ls : Array Slot} {n : Nat} {L : List Value} (h : LH g ls n L) {i : Nat} {v : Value} (hv : L[i]? = some v) (hr : ∀ q, v ≠ .retAddr q) : ls[i]? = some (.val (rv g v)) := h.2.2.2 i v hv hr
theorem exL_len (g : Nat × Nat × Nat) : ∀ l : List Value, (lg_sl (l.map (rv g))).length = (exL l).length
  | [] => rfl
  | v :: r => by
    have ih := exL_len g r
    show ((if (rv g v).category = 2 then [Slot.val (rv g v), .second] else [Slot.val (rv g v)]) ++ lg_sl (r.map (rv g))).length = (bif isLong (some v) then v :: mk0 :: exL r else v :: exL r).length
    rw [List.length_append, ih]
    rcases lv_cat v with z | z
    · have e : isLong (some v) = false := by simp [isLong, z]; rfl
      rw [if_neg (by rw [rv_cat, z]; decide), e, cond_false]
      simp only [List.length_cons, List.length_nil]
      omega
    · have e : isLong (some v) = true := by simp [isLong, z]
      rw [if_pos (by rw [rv_cat, z]), e, cond_true]
      simp only [List.length_cons, List.length_nil]
      omega
theorem exL_at (g : Nat × Nat × Nat) : ∀ (l : List Value) (o i : Nat) (v : Value), (exL l)[i]? = some v → (∀ q, v ≠ .retAddr q) → (o + i, rv g v) ∈ lv_args o (l.map (rv g))
  | [], _, _, _, h, _ => by simp [exL] at h
  | a :: r, o, i, v, h, hv => by
    unfold exL at h
    rw [List.map_cons]
    unfold lv_args
    cases hc : isLong (some a) with
    | true =>
      rw [hc, cond_true] at h
      have hcat : (rv g a).category = 2 := by
        rw [rv_cat]
        simpa [isLong] using hc
      match i, h with
      | 0, h =>
        simp at h
        subst h
        exact List.mem_cons_self
      | 1, h =>
        simp at h
        exact absurd h.symm (hv 0)
      | i + 2, h =>
        have := exL_at g r (o + 2) i v (by simpa using h) hv
        rw [show o + (i + 2) = o + 2 + i by omega, if_pos hcat]
        exact List.mem_cons_of_mem _ this
    | false =>
      rw [hc, cond_false] at h
      have hcat : (rv g a).category = 1 := by
        rw [rv_cat]
        rcases lv_cat a with z | z
        · exact z
        · simp [isLong, z] at hc
      match i, h with
      | 0, h =>
        simp at h
        subst h
        exact List.mem_cons_self
      | i + 1, h =>
        have := exL_at g r (o + 1) i v (by simpa using h) hv
        rw [show o + (i + 1) = o + 1 + i by omega, if_neg (by rw [hcat]; decide)]
        exact List.mem_cons_of_mem _ this
theorem LH.entry (g : Nat × Nat × Nat) (l : List Value) {n : Nat} (h : (exL l).length ≤ n) {ls : Array Slot} (hh : lv_has ls n (lv_args 0 (l.map (rv g)))) : LH g ls n (ini n l) := by
  refine ⟨hh.1, hh.2.1, by unfold ini; rw [List.length_append, List.length_replicate]; omega, fun i v hi hv => ?_⟩
  unfold ini at hi
  by_cases hl : i < (exL l).length
  · rw [List.getElem?_append_left hl] at hi
    have := hh.2.2 _ (exL_at g l 0 i v hi hv)
    rwa [Nat.zero_add] at this
  · rw [List.getElem?_append_right (by omega), List.getElem?_replicate] at hi
    split at hi
    · cases hi; exact absurd rfl (hv 0)
    · cases hi
end
section
/-! heap instructions over the abstract heap -/
def okTy (t : FieldType) : Bool := match t with
  | .int => true
  | .long => true
  | .boolean => true
  | .array _ => true
  | .object _ => true
  | _ => false
theorem okTy_all : ∀ c, c < 13 → ∀ b, b < nF c → okTy (tyT c b) = true := by decide +kernel
def ClsP (ci : Nat) : Prop := clsL[ci]? = some (rcl ci, TT ci, nF ci) ∧ (∀ w ∈ u_ws (rcl ci) (TT ci) (nF ci), w ∈ tblG) ∧ (∀ k, k < nF ci → parseFieldDescriptor (TT ci k).2.2.1 = some (tyT ci k)) ∧ ∀ a, a < nF ci → ∀ b, b < nF ci → a ≠ b → (TT ci a).2.1 ≠ (TT ci b).2.1
theorem clsP_0 : ClsP 0 := ⟨rfl, inX_0, tyX0_ok, nmX0⟩
theorem clsP_1 : ClsP 1 := ⟨rfl, inX_1, tyX1_ok, nmX1⟩
theorem clsP_2 : ClsP 2 := ⟨rfl, inX_2, tyX2_ok, nmX2⟩
theorem clsP_3 : ClsP 3 := ⟨rfl, inX_3, tyX3_ok, nmX3⟩
theorem clsP_4 : ClsP 4 := ⟨rfl, inX_4, tyX4_ok, nmX4⟩
theorem clsP_5 : ClsP 5 := ⟨rfl, inX_5, tyX5_ok, nmX5⟩
theorem clsP_6 : ClsP 6 := ⟨rfl, inX_6, tyX6_ok, nmX6⟩
theorem clsP_7 : ClsP 7 := ⟨rfl, inX_7, tyX7_ok, nmX7⟩
theorem clsP_8 : ClsP 8 := ⟨rfl, inX_8, tyX8_ok, nmX8⟩
theorem clsP_9 : ClsP 9 := ⟨rfl, inX_9, tyX9_ok, nmX9⟩
theorem clsP_10 : ClsP 10 := ⟨rfl, inX_10, tyX10_ok, nmX10⟩
theorem clsP_11 : ClsP 11 := ⟨rfl, inX_11, tyX11_ok, nmX11⟩
theorem clsP_12 : ClsP 12 := ⟨rfl, inX_12, tyX12_ok, nmX12⟩
theorem clsP : ∀ ci, ci < 13 → ClsP ci := lt_s (lt_s (lt_s (lt_s (lt_s (lt_s (lt_s (lt_s (lt_s (lt_s (lt_s (lt_s (lt_s (lt_0 (p := ClsP)) clsP_0) clsP_1) clsP_2) clsP_3) clsP_4) clsP_5) clsP_6) clsP_7) clsP_8) clsP_9) clsP_10) clsP_11) clsP_12
theorem beqE {a b : Nat} (h : Nat.beq a b = true) : a = b := Nat.eq_of_beq_eq_true h
theorem chkF_spec {k own idx c b : Nat} (h : chkF k own idx c b = true) : (Jvm.Cond.fieldLink (rcl own) idx (TT c b).1 (TT c b).2.1 (TT c b).2.2.1) ∈ tblG ∧ b < nF c ∧ c < 13 := by
  unfold chkF at h
  obtain ⟨e, he, h⟩ := List.any_eq_true.mp h
  simp only [Bool.and_eq_true] at h
  obtain ⟨⟨⟨h1, h2⟩, h3⟩, h4⟩ := h
  have e1 := beqE h1
  have e2 := beqE h2
  have e3 := beqE h3
  have e4 := beqE h4
  subst e1 e2 e3 e4
  have hf := List.all_eq_true.mp flT_ok e he
  simp only [flChk, Bool.and_eq_true, decide_eq_true_eq] at hf
  exact ⟨tAt_in hf.1.1, hf.1.2, hf.2⟩
theorem okC_spec {c kd b : Nat} (h : okC c kd = true) (hc : c < 13) (hb : b < nF c) : kd < 13 ∧ b < nF kd ∧ TT kd b = TT c b ∧ ftg kd b = ftg c b ∧ tyT kd b = tyT c b := by
  unfold okC at h
  simp only [Bool.or_eq_true, Bool.and_eq_true] at h
  rcases h with h | ⟨h1, h2⟩
  · have := beqE h
    subst this
    exact ⟨hc, hb, rfl, rfl, rfl⟩
  · have e1 := beqE h1
    have e2 := beqE h2
    subst e1 e2
    have hb' : b < 2 := hb
    refine ⟨by decide, hb, ?_⟩
    match b, hb' with
    | 0, _ => exact ⟨rfl, rfl, rfl⟩
    | 1, _ => exact ⟨rfl, rfl, rfl⟩
def fvs (g : Nat × Nat × Nat) (h : AH) (i : Nat) : List Value := (List.range (nF (AK h i).1)).map (fun j => rv g (rdf (ftg (AK h i).1 j) h i j))
theorem ce_obj {g : Nat × Nat × Nat} {cA : Nat → ClassId} {h : AH} {i : Nat} (hk : (AK h i).1 < 13) : ce g cA h i = .inr ((AK h i).1, fvs g h i) := by
  unfold ce
  rw [if_pos hk]
  rfl
theorem fvs_at {g : Nat × Nat × Nat} {h : AH} {i b : Nat} (hb : b < nF (AK h i).1) : (fvs g h i)[b]? = some (rv g (rdf (ftg (AK h i).1 b) h i b)) := by
  unfold fvs
  rw [List.getElem?_map, List.getElem?_range hb]
  rfl
theorem fvs_len (g : Nat × Nat × Nat) (h : AH) (i : Nat) : (fvs g h i).length = nF (AK h i).1 := by
  unfold fvs
  rw [List.length_map, List.length_range]
theorem wrf_spec {t : Nat} {h h' : AH} {i j : Nat} {v : Value} (hw : wrf t h i j v = some h') : AN h' = AN h ∧ AT h' = AT h ∧ AK h' = AK h ∧ (∀ a, a ≠ i → AI h' a = AI h a) ∧ (∀ a, a ≠ i → AL h' a = AL h a) ∧ (∀ a, a ≠ i → AR h' a = AR h a) ∧ rdf t h' i j = v ∧ ∀ t' j', j' ≠ j → rdf t' h' i j' = rdf t' h i j' := by
  have up : ∀ {α : Type} (f : Nat → Nat → α) (x : α) (a : Nat), a ≠ i → up2 f i j x a = f a := fun f x a ha => by
    funext b
    exact if_neg fun z => ha z.1
  have us : ∀ {α : Type} (f : Nat → Nat → α) (x : α), up2 f i j x i j = x := fun f x => if_pos ⟨rfl, rfl⟩
  have un : ∀ {α : Type} (f : Nat → Nat → α) (x : α) (b : Nat), b ≠ j → up2 f i j x i b = f i b := fun f x b hb => if_neg fun z => hb z.2
  have kI : ∀ x, AN (stI h i j x) = AN h ∧ AT (stI h i j x) = AT h ∧ AK (stI h i j x) = AK h ∧ (∀ a, a ≠ i → AI (stI h i j x) a = AI h a) ∧ (∀ a, a ≠ i → AL (stI h i j x) a = AL h a) ∧ (∀ a, a ≠ i → AR (stI h i j x) a = AR h a) ∧ (AI (stI h i j x) i j = x) ∧ ∀ t' j', j' ≠ j → rdf t' (stI h i j x) i j' = rdf t' h i j' := fun x => by
    refine ⟨rfl, rfl, rfl, fun a ha => up _ _ a ha, fun _ _ => rfl, fun _ _ => rfl, us _ _, fun t' j' hj => ?_⟩
    have e : AI (stI h i j x) i j' = AI h i j' := un _ _ j' hj
    have e2 : AL (stI h i j x) = AL h := rfl
    have e3 : AR (stI h i j x) = AR h := rfl
    unfold rdf
    rw [e, e2, e3]
  have kL : ∀ x, AN (stL h i j x) = AN h ∧ AT (stL h i j x) = AT h ∧ AK (stL h i j x) = AK h ∧ (∀ a, a ≠ i → AI (stL h i j x) a = AI h a) ∧ (∀ a, a ≠ i → AL (stL h i j x) a = AL h a) ∧ (∀ a, a ≠ i → AR (stL h i j x) a = AR h a) ∧ (AL (stL h i j x) i j = x) ∧ ∀ t' j', j' ≠ j → rdf t' (stL h i j x) i j' = rdf t' h i j' := fun x => by
    refine ⟨rfl, rfl, rfl, fun _ _ => rfl, fun a ha => up _ _ a ha, fun _ _ => rfl, us _ _, fun t' j' hj => ?_⟩
    have e : AL (stL h i j x) i j' = AL h i j' := un _ _ j' hj
    have e2 : AI (stL h i j x) = AI h := rfl
    have e3 : AR (stL h i j x) = AR h := rfl
    unfold rdf
    rw [e, e2, e3]
  have kR : ∀ x, AN (stR h i j x) = AN h ∧ AT (stR h i j x) = AT h ∧ AK (stR h i j x) = AK h ∧ (∀ a, a ≠ i → AI (stR h i j x) a = AI h a) ∧ (∀ a, a ≠ i → AL (stR h i j x) a = AL h a) ∧ (∀ a, a ≠ i → AR (stR h i j x) a = AR h a) ∧ (AR (stR h i j x) i j = x) ∧ ∀ t' j', j' ≠ j → rdf t' (stR h i j x) i j' = rdf t' h i j' := fun x => by
    refine ⟨rfl, rfl, rfl, fun _ _ => rfl, fun _ _ => rfl, fun a ha => up _ _ a ha, us _ _, fun t' j' hj => ?_⟩
    have e : AR (stR h i j x) i j' = AR h i j' := un _ _ j' hj
    have e2 : AI (stR h i j x) = AI h := rfl
    have e3 : AL (stR h i j x) = AL h := rfl
    unfold rdf
    rw [e, e2, e3]
  unfold wrf at hw
  cases v with
  | int x =>
    dsimp only at hw
    obtain ⟨a1, a2, a3, a4, a5, a6, a7, a8⟩ := kI x
    split at hw
    · cases hw
      exact ⟨a1, a2, a3, a4, a5, a6, congrArg Value.int a7, a8⟩
    · split at hw
      · cases hw
        exact ⟨a1, a2, a3, a4, a5, a6, congrArg Value.int a7, a8⟩
      · cases hw
    · cases hw
  | long x =>
    dsimp only at hw
    obtain ⟨a1, a2, a3, a4, a5, a6, a7, a8⟩ := kL x
    split at hw
    · cases hw
      exact ⟨a1, a2, a3, a4, a5, a6, congrArg Value.long a7, a8⟩
    · cases hw
  | ref x =>
    dsimp only at hw
    obtain ⟨a1, a2, a3, a4, a5, a6, a7, a8⟩ := kR (some x)
    split at hw
    · cases hw
      exact ⟨a1, a2, a3, a4, a5, a6, congrArg va_rf a7, a8⟩
    · cases hw
  | null =>
    dsimp only at hw
    obtain ⟨a1, a2, a3, a4, a5, a6, a7, a8⟩ := kR none
    split at hw
    · cases hw
      exact ⟨a1, a2, a3, a4, a5, a6, congrArg va_rf a7, a8⟩
    · cases hw
  | _ => cases hw
theorem isB_nar {x : Int32} (h : isB x = true) : narrow .boolean (.int x) = .int x ∧ fits .boolean (.int x) = true := by
  unfold isB at h
  rw [Bool.or_eq_true, decide_eq_true_eq, decide_eq_true_eq] at h
  rcases h with rfl | rfl <;> decide
theorem wrf_fits {c b : Nat} {h h' : AH} {i : Nat} {v : Value} {g : Nat × Nat × Nat} (hc : c < 13) (hb : b < nF c) (hw : wrf (ftg c b) h i b v = some h') : narrow (tyT c b) (rv g v) = rv g v ∧ fits (tyT c b) (rv g v) = true := by
  have hok := okTy_all c hc b hb
  unfold ftg at hw
  unfold wrf at hw
  cases ht : tyT c b <;> rw [ht] at hw hok <;> first | (cases hok; done) | skip
  all_goals (cases v <;> dsimp only at hw <;> first | (cases hw; done) | exact ⟨rfl, rfl⟩ | skip)
  rename_i x
  have hw2 : (if isB x = true then some (stI h i b x) else none) = some h' := hw
  split at hw2
  · exact isB_nar ‹_›
  · cases hw2
section HEAPS
variable {p : Program} {l : Launch} {e : Env} {R : Room} {s : State} {m : MethodId} {args : Array Value} {below : List Frame} {meth : Method} {c : Code} {H : Heap} {locs : List Loc} {cells slots : Nat} {Q : State → Prop} {pc : Nat} {ls : Array Slot} {rest : List Value}
variable {g : Nat × Nat × Nat} {Ls : Nat} {xs : Nat → Int32} {D : va_G} {cA : Nat → ClassId} {h h' : AH} {k i : Nat} {H0 : Heap}
theorem Rel.big (hR : Rel g Ls xs D cA H0 h H locs) (hk : (AK h i).1 ≠ 20) : 2 ≤ i := by
  obtain ⟨-, -, -, -, -, r6, r7, -, -⟩ := hR
  match i, hk with
  | 0, hk => exact absurd (by rw [r6]) hk
  | 1, hk => exact absurd (by rw [r7]) hk
  | i + 2, _ => exact Nat.le_add_left _ _
theorem getW {idx cc b : Nat} (C : Cx p s m args meth c k g Ls xs D cA) (hR : Rel g Ls xs D cA s.heap h H locs) (hF : chkF k (mOwn k) idx cc b = true) (hok : okC cc (AK h i).1 = true) (hdg : decode (mCode k) pc = .ok (.getfield idx, 3))
    (kk : W p l e R s m args below meth c H locs cells slots Q (F0 m (pc + 3) ls (rv g (rdf (ftg cc b) h i b) :: rest))) : W p l e R s m args below meth c H locs cells slots Q (F0 m pc ls (.ref (adr g i) :: rest)) := by
  obtain ⟨hx, hb, hml, hown, hts, hnm, hret, hlk, hW⟩ := C
  obtain ⟨hlink, hbn, hc⟩ := chkF_spec hF
  obtain ⟨o1, o2, o3, o4, o5⟩ := okC_spec hok hc hbn
  obtain ⟨q1, q2, q3, q4⟩ := clsP _ o1
  have h2 : 2 ≤ i := hR.big (by omega)
  have he := hR.at h2 (by omega)
  rw [ce_obj o1] at he
  refine va_get (D := D) (C := rcl (AK h i).1) (T := TT (AK h i).1) (N := nF (AK h i).1) hx hb hts q2 hown hW.1 hR.2.1 (i - 2) he q1 b o2 (ref := (TT cc b).1) (by rw [o3]; exact hts _ hlink) (by rw [o3]; exact fun _ z => z) (fvs_at o2) hdg ?_
  rw [o4]
  exact kk
theorem putW {idx cc b : Nat} {v : Value} (C : Cx p s m args meth c k g Ls xs D cA) (hR : Rel g Ls xs D cA s.heap h H locs) (hF : chkF k (mOwn k) idx cc b = true) (hPf : chkP k (mOwn k) cc b = true) (h2 : 2 ≤ i) (hok : okC cc (AK h i).1 = true) (hw : wrf (ftg cc b) h i b v = some h') (hdg : decode (mCode k) pc = .ok (.putfield idx, 3))
    (kk : ∀ (H1 : Heap) (locs1 : List Loc), Rel g Ls xs D cA s.heap h' H1 locs1 → W p l e R s m args below meth c H1 locs1 cells slots Q (F0 m (pc + 3) ls rest)) : W p l e R s m args below meth c H locs cells slots Q (F0 m pc ls (rv g v :: .ref (adr g i) :: rest)) := by
  obtain ⟨hx, hb, hml, hown, hts, hnm, hret, hlk, hW⟩ := C
  obtain ⟨hlink, hbn, hc⟩ := chkF_spec hF
  obtain ⟨o1, o2, o3, o4, o5⟩ := okC_spec hok hc hbn
  obtain ⟨q1, q2, q3, q4⟩ := clsP _ o1
  have he := hR.at h2 (by omega)
  rw [ce_obj o1] at he
  obtain ⟨a1, a2, a3, a4, a5, a6, a7, a8⟩ := wrf_spec hw
  obtain ⟨f1, f2⟩ := wrf_fits (g := g) hc hbn hw
  have hap := va_apart (own := rcl (mOwn k)) hts q2 _ q3 q4 hW.1 q1
  obtain ⟨r, z1, cell, c1, c2, c3, c4⟩ := hR.2.1 (i - 2) _ he
  have hr : r = (rcl (AK h i).1, TT (AK h i).1, nF (AK h i).1) := Option.some.inj (z1.symm.trans q1)
  subst hr
  obtain ⟨hS, hfc, kC, hkC, hkind⟩ := hW.1.1 _ _ q1
  obtain ⟨cf, kf, fi, f, hi, hsl⟩ := hS b o2
  have hlay := hts _ (q2 _ (u_in_lay o2))
  have hst := (u_facts hfc hkC (u_lays hts q2 o2) hi).1
  have fin : ∀ (H1 : Heap) (l1 : List Loc), H1[adr g i]? = some (cell.setSlot (D.2 (AK h i).1 b) (rv g v)) → H1.size = H.size → (∀ q : Nat, q ≠ adr g i → H1[q]? = H[q]?) → Rel g Ls xs D cA s.heap h' H1 (locs ++ [⟨adr g i, D.2 (AK h i).1 b⟩]) := by
    intro H1 l1 e1 e2 e3
    refine hR.put h2 a1 a3 a4 a5 a6 ?_ e2 e3
    rw [ce_obj (by rw [a3]; exact o1)]
    refine ⟨_, by rw [a3]; exact q1, ?_⟩
    rw [a3]
    refine t_OB.to (V := updV (vp_V (fvs g h i)) b (rv g v)) ⟨_, e1, c2, c3, t_set c4 hap o2 (rv g v)⟩ (fun j hj => ?_)
    have e4 : vp_V (fvs g h' i) j = rv g (rdf (ftg (AK h i).1 j) h' i j) := by
      unfold vp_V
      rw [List.getD_eq_getElem?_getD, fvs_at (by rw [a3]; exact hj), a3]
      rfl
    rw [e4]
    unfold updV
    by_cases hjb : j = b
    · subst hjb
      rw [if_pos rfl, o4, a7]
    · rw [if_neg hjb, a8 _ _ hjb]
      unfold vp_V
      rw [List.getD_eq_getElem?_getD, fvs_at hj]
      rfl
  have hd : parseFieldDescriptor (TT (AK h i).1 b).2.2.1 = some (tyT cc b) := by rw [q3 b o2, o5]
  unfold u_lay at hlay
  cases hfin : (TT (AK h i).1 b).2.2.2 with
  | false =>
    rw [if_neg (by rw [hfin]; decide)] at hlay
    have h6 := u_store hfc hkC hkind hlay hi hd f1 f2
    refine W.putK hx hb (f := f) ⟨hown, hts _ hlink, ⟨_, _, _, by rw [← o3]; exact hi⟩, hst⟩ (by rw [c2]; exact h6) c1 c3 (by rw [hsl]; exact k2_hasslot (c4 b o2)) rfl rfl hdg fun H' e1 e2 e3 => ?_
    rw [hsl] at e1 ⊢
    exact kk H' _ (fin H' [] e1 e2 e3)
  | true =>
    rw [if_pos hfin] at hlay
    have hP2 : (mName k).name = "<init>" ∧ (TT cc b).1 = rcl (mOwn k) := by
      unfold chkP at hPf
      rw [← o3, hfin, o3] at hPf
      simpa using hPf
    have hcf : m.cls = cf := by
      obtain ⟨_, _, c', _, _, _, -, -, hf', -, -, -, hown2, -⟩ := Cond.laysFinal_spec hlay
      have e1 : c' = cf := by have := hi.symm.trans hf'; simp at this; exact this.1.symm
      rw [o3, hP2.2] at hown2
      rw [← e1]; exact Option.some.inj (hown.symm.trans hown2)
    have h6 := u_fits hfc hkC hkind (Or.inr hlay) hi hd f1 f2
    refine W.putFinK hx hb hown (hts _ hlink) (by rw [← o3]; exact hi) hst hcf (hnm hP2.1) (by rw [c2]; exact h6) c1 c3 (by rw [hsl]; exact k2_hasslot (c4 b o2)) rfl rfl hdg fun H' e1 e2 e3 => ?_
    rw [hsl] at e1 ⊢
    exact kk H' _ (fin H' [] e1 e2 e3)
theorem ce_arr {kd t : Nat} (hk : (AK h i).1 = kd) (h1 : kd = 20 ∧ t = 0 ∨ kd = 22 ∧ t = 2 ∨ kd = 23 ∧ t = 3) : ce g cA h i = .inl (cA t, (AK h i).2, .inl (AI h i)) := by
  unfold ce
  rw [hk, if_neg (by omega), if_neg (by omega), if_neg (by omega), show kd - 20 = t by omega]
theorem ce_long (hk : (AK h i).1 = 21) : ce g cA h i = .inl (cA 1, (AK h i).2, .inr (.inl (AL h i))) := by
  unfold ce
  rw [hk, if_neg (by omega), if_pos rfl]
theorem ce_ref (hk : (AK h i).1 = 24) : ce g cA h i = .inl (cA 4, (AK h i).2, .inr (.inr (.inr (.inr (fun j => (AR h i j).map (adr g)))))) := by
  unfold ce
  rw [hk, if_neg (by omega), if_neg (by omega), if_pos rfl]
theorem inR_in {x : Int32} (hi : inR h i x = true) : vp_in x (AK h i).2 := by
  unfold inR at hi
  rw [Bool.and_eq_true, decide_eq_true_eq, decide_eq_true_eq] at hi
  exact fun z => z.elim hi.1 (Nat.not_le.mpr hi.2)
theorem ialdW {x : Int32} (C : Cx p s m args meth c k g Ls xs D cA) (hR : Rel g Ls xs D cA s.heap h H locs) (hk : (AK h i).1 = 20) (hi : inR h i x = true) (hdg : decode (mCode k) pc = .ok (.iaload, 1))
    (kk : W p l e R s m args below meth c H locs cells slots Q (F0 m (pc + 1) ls (.int (AI h i x.toNatClampNeg) :: rest))) : W p l e R s m args below meth c H locs cells slots Q (F0 m pc ls (.int x :: .ref (adr g i) :: rest)) := by
  obtain ⟨hx, hb, hml, hown, hts, hnm, hret, hlk, hW⟩ := C
  have hin := inR_in hi
  by_cases h2 : 2 ≤ i
  · have he := hR.at h2 (by omega)
    rw [ce_arr (t := 0) hk (Or.inl ⟨rfl, rfl⟩)] at he
    exact va_iald hx hb hW.1 hR.2.1 (i - 2) 0 he rfl hin hdg kk
  · obtain ⟨-, -, r3, -, -, r6, r7, r8, r9⟩ := hR
    obtain ⟨-, -, -, -, -, w6, w7, w8, w9, w10, w11⟩ := hW
    have hlt : x.toNatClampNeg < (AK h i).2 := Nat.not_le.mp fun q => hin (Or.inr q)
    match i, h2 with
    | 0, _ =>
      rw [r6] at hin hlt
      rw [r8 _ hlt] at kk
      exact va_sld hx hb w7 (by omega) (Nat.not_le.mpr w9) r3 hin hdg kk
    | 1, _ =>
      rw [r7] at hin hlt
      rw [r9 _ hlt] at kk
      exact va_ti (f := fun j => .int (fac j)) hx hb w8 r3 hin rfl hdg kk
    | i + 2, h2 => exact absurd (Nat.le_add_left _ _) h2
theorem zaldW {x : Int32} (C : Cx p s m args meth c k g Ls xs D cA) (hR : Rel g Ls xs D cA s.heap h H locs) (hk : (AK h i).1 = 22 ∨ (AK h i).1 = 23) (hi : inR h i x = true) (hdg : decode (mCode k) pc = .ok (.baload, 1))
    (kk : W p l e R s m args below meth c H locs cells slots Q (F0 m (pc + 1) ls (.int (AI h i x.toNatClampNeg) :: rest))) : W p l e R s m args below meth c H locs cells slots Q (F0 m pc ls (.int x :: .ref (adr g i) :: rest)) := by
  obtain ⟨hx, hb, hml, hown, hts, hnm, hret, hlk, hW⟩ := C
  have hin := inR_in hi
  have h2 : 2 ≤ i := hR.big (by omega)
  have he := hR.at h2 (by omega)
  rcases hk with hk | hk
  · rw [ce_arr (t := 2) hk (Or.inr (Or.inl ⟨rfl, rfl⟩))] at he
    exact va_bald hx hb hW.1 hR.2.1 (i - 2) 2 he rfl hin hdg kk
  · rw [ce_arr (t := 3) hk (Or.inr (Or.inr ⟨rfl, rfl⟩))] at he
    exact va_zald hx hb hW.1 hR.2.1 (i - 2) 3 he rfl hin hdg kk
theorem laldW {x : Int32} (C : Cx p s m args meth c k g Ls xs D cA) (hR : Rel g Ls xs D cA s.heap h H locs) (hk : (AK h i).1 = 21) (hi : inR h i x = true) (hdg : decode (mCode k) pc = .ok (.laload, 1))
    (kk : W p l e R s m args below meth c H locs cells slots Q (F0 m (pc + 1) ls (.long (AL h i x.toNatClampNeg) :: rest))) : W p l e R s m args below meth c H locs cells slots Q (F0 m pc ls (.int x :: .ref (adr g i) :: rest)) := by
  obtain ⟨hx, hb, hml, hown, hts, hnm, hret, hlk, hW⟩ := C
  have h2 : 2 ≤ i := hR.big (by omega)
  have he := hR.at h2 (by omega)
  rw [ce_long hk] at he
  exact va_lald hx hb hW.1 hR.2.1 (i - 2) 1 he rfl (inR_in hi) hdg kk
theorem rv_rf (g : Nat × Nat × Nat) (o : Option Nat) : rv g (va_rf o) = va_rf (o.map (adr g)) := by
  cases o <;> rfl
theorem aaldW {x : Int32} (C : Cx p s m args meth c k g Ls xs D cA) (hR : Rel g Ls xs D cA s.heap h H locs) (hk : (AK h i).1 = 24) (hi : inR h i x = true) (hdg : decode (mCode k) pc = .ok (.aaload, 1))
    (kk : W p l e R s m args below meth c H locs cells slots Q (F0 m (pc + 1) ls (rv g (va_rf (AR h i x.toNatClampNeg)) :: rest))) : W p l e R s m args below meth c H locs cells slots Q (F0 m pc ls (.int x :: .ref (adr g i) :: rest)) := by
  obtain ⟨hx, hb, hml, hown, hts, hnm, hret, hlk, hW⟩ := C
  have h2 : 2 ≤ i := hR.big (by omega)
  have he := hR.at h2 (by omega)
  rw [ce_ref hk] at he
  rw [rv_rf] at kk
  exact va_aldq hx hb hW.1 hR.2.1 (i - 2) 4 he rfl (inR_in hi) hdg kk
theorem alenW (C : Cx p s m args meth c k g Ls xs D cA) (hR : Rel g Ls xs D cA s.heap h H locs) (hk : (AK h i).1 = 20 ∨ (AK h i).1 = 21 ∨ (AK h i).1 = 24) (hdg : decode (mCode k) pc = .ok (.arraylength, 1))
    (kk : W p l e R s m args below meth c H locs cells slots Q (F0 m (pc + 1) ls (.int (Int32.ofNat (AK h i).2) :: rest))) : W p l e R s m args below meth c H locs cells slots Q (F0 m pc ls (.ref (adr g i) :: rest)) := by
  obtain ⟨hx, hb, hml, hown, hts, hnm, hret, hlk, hW⟩ := C
  by_cases h2 : 2 ≤ i
  · have he := hR.at h2 (by omega)
    rcases hk with hk | hk | hk
    · rw [ce_arr (t := 0) hk (Or.inl ⟨rfl, rfl⟩)] at he
      exact va_alen hx hb hW.1 hR.2.1 (i - 2) 0 he rfl rfl hdg kk
    · rw [ce_long hk] at he
      exact va_alen hx hb hW.1 hR.2.1 (i - 2) 1 he rfl rfl hdg kk
    · rw [ce_ref hk] at he
      exact va_alen hx hb hW.1 hR.2.1 (i - 2) 4 he rfl rfl hdg kk
  · obtain ⟨-, -, r3, -, -, r6, r7, r8, r9⟩ := hR
    obtain ⟨-, -, -, -, -, w6, w7, w8, w9, w10, w11⟩ := hW
    match i, h2 with
    | 0, _ =>
      rw [r6] at kk
      exact va_slen (b := g.2.1) hx hb w7 (by omega) (Nat.not_le.mpr w9) r3 hdg kk
    | 1, _ =>
      rw [r7] at kk
      exact va_tlen (t := g.2.2) hx hb w8 r3 rfl hdg kk
    | i + 2, h2 => exact absurd (Nat.le_add_left _ _) h2
theorem stI_row (h : AH) (i j : Nat) (x : Int32) : AI (stI h i j x) i = upd (AI h i) j x := by
  funext b
  show (if i = i ∧ b = j then x else AI h i b) = if b = j then x else AI h i b
  by_cases hb : b = j
  · rw [if_pos ⟨rfl, hb⟩, if_pos hb]
  · rw [if_neg (fun z => hb z.2), if_neg hb]
theorem stL_row (h : AH) (i j : Nat) (x : Int64) : AL (stL h i j x) i = vp_updL (AL h i) j x := by
  funext b
  show (if i = i ∧ b = j then x else AL h i b) = if b = j then x else AL h i b
  by_cases hb : b = j
  · rw [if_pos ⟨rfl, hb⟩, if_pos hb]
  · rw [if_neg (fun z => hb z.2), if_neg hb]
theorem stR_row (h : AH) (i j : Nat) (x : Option Nat) : AR (stR h i j x) i = va_up (AR h i) j x := by
  funext b
  show (if i = i ∧ b = j then x else AR h i b) = va_up (AR h i) j x b
  unfold va_up
  by_cases hb : b = j
  · rw [if_pos ⟨rfl, hb⟩, if_pos hb]
  · rw [if_neg (fun z => hb z.2), if_neg hb]
theorem up2_off {α : Type} (f : Nat → Nat → α) (i j : Nat) (x : α) (a : Nat) (ha : a ≠ i) : up2 f i j x a = f a := by
  funext b
  exact if_neg fun z => ha z.1
theorem iastW {x y : Int32} (C : Cx p s m args meth c k g Ls xs D cA) (hR : Rel g Ls xs D cA s.heap h H locs) (h2 : 2 ≤ i) (hk : (AK h i).1 = 20) (hi : inR h i x = true) (hdg : decode (mCode k) pc = .ok (.iastore, 1))
    (kk : ∀ (H1 : Heap) (locs1 : List Loc), Rel g Ls xs D cA s.heap (stI h i x.toNatClampNeg y) H1 locs1 → W p l e R s m args below meth c H1 locs1 cells slots Q (F0 m (pc + 1) ls rest)) : W p l e R s m args below meth c H locs cells slots Q (F0 m pc ls (.int y :: .int x :: .ref (adr g i) :: rest)) := by
  obtain ⟨hx, hb, hml, hown, hts, hnm, hret, hlk, hW⟩ := C
  have hin := inR_in hi
  have he := hR.at h2 (by omega)
  rw [ce_arr (t := 0) hk (Or.inl ⟨rfl, rfl⟩)] at he
  refine W.iast hx hb (hR.2.1 _ _ he) ((hW.1.2 0 _ rfl).1 (AK h i).2 (fun j => .int (AI h i j))) (fun q => by cases q) (by show ¬ (x < 0 ∨ (arrV _ _ _).slots.size ≤ _); rw [arrV_size]; exact hin) rfl rfl hdg fun H1 e1 z oq => ?_
  refine kk H1 _ (hR.put h2 rfl rfl (fun a ha => up2_off _ _ _ _ a ha) (fun _ _ => rfl) (fun _ _ => rfl) ?_ z oq)
  rw [ce_arr (h := stI h i x.toNatClampNeg y) (t := 0) hk (Or.inl ⟨rfl, rfl⟩), stI_row]
  show H1[adr g i]? = some (vp_cell _ _)
  rw [e1, vp_cell_i, vp_cell_i, arrV_store]
  congr 2
  funext q
  by_cases hq : q = x.toNatClampNeg
  · subst hq
    simp [updV, upd]
  · simp [updV, upd, hq]
theorem bastW {x y : Int32} (C : Cx p s m args meth c k g Ls xs D cA) (hR : Rel g Ls xs D cA s.heap h H locs) (h2 : 2 ≤ i) (hk : (AK h i).1 = 22) (hi : inR h i x = true) (hdg : decode (mCode k) pc = .ok (.bastore, 1))
    (kk : ∀ (H1 : Heap) (locs1 : List Loc), Rel g Ls xs D cA s.heap (stI h i x.toNatClampNeg (vp_nar .byte y)) H1 locs1 → W p l e R s m args below meth c H1 locs1 cells slots Q (F0 m (pc + 1) ls rest)) : W p l e R s m args below meth c H locs cells slots Q (F0 m pc ls (.int y :: .int x :: .ref (adr g i) :: rest)) := by
  obtain ⟨hx, hb, hml, hown, hts, hnm, hret, hlk, hW⟩ := C
  have hin := inR_in hi
  have he := hR.at h2 (by omega)
  rw [ce_arr (t := 2) hk (Or.inr (Or.inl ⟨rfl, rfl⟩))] at he
  refine W.bast hx hb (hR.2.1 _ _ he) ((hW.1.2 2 _ rfl).1 (AK h i).2 (fun j => .int (AI h i j))) (fun q => by cases q) (by show ¬ (x < 0 ∨ (arrV _ _ _).slots.size ≤ _); rw [arrV_size]; exact hin) rfl rfl hdg fun H1 e1 z oq => ?_
  refine kk H1 _ (hR.put h2 rfl rfl (fun a ha => up2_off _ _ _ _ a ha) (fun _ _ => rfl) (fun _ _ => rfl) ?_ z oq)
  rw [ce_arr (h := stI h i x.toNatClampNeg (vp_nar .byte y)) (t := 2) hk (Or.inr (Or.inl ⟨rfl, rfl⟩)), stI_row]
  show H1[adr g i]? = some (vp_cell _ _)
  rw [e1, vp_cell_i, vp_cell_i, arrV_store]
  congr 2
  funext q
  by_cases hq : q = x.toNatClampNeg
  · subst hq
    simp [updV, upd, vp_nar]
    try rfl
  · simp [updV, upd, hq]
theorem zastW {x y : Int32} (C : Cx p s m args meth c k g Ls xs D cA) (hR : Rel g Ls xs D cA s.heap h H locs) (h2 : 2 ≤ i) (hk : (AK h i).1 = 23) (hi : inR h i x = true) (hdg : decode (mCode k) pc = .ok (.bastore, 1))
    (kk : ∀ (H1 : Heap) (locs1 : List Loc), Rel g Ls xs D cA s.heap (stI h i x.toNatClampNeg (vp_nar .boolean y)) H1 locs1 → W p l e R s m args below meth c H1 locs1 cells slots Q (F0 m (pc + 1) ls rest)) : W p l e R s m args below meth c H locs cells slots Q (F0 m pc ls (.int y :: .int x :: .ref (adr g i) :: rest)) := by
  obtain ⟨hx, hb, hml, hown, hts, hnm, hret, hlk, hW⟩ := C
  have hin := inR_in hi
  have he := hR.at h2 (by omega)
  rw [ce_arr (t := 3) hk (Or.inr (Or.inr ⟨rfl, rfl⟩))] at he
  refine W.zast hx hb (hR.2.1 _ _ he) ((hW.1.2 3 _ rfl).1 (AK h i).2 (fun j => .int (AI h i j))) (fun q => by cases q) (by show ¬ (x < 0 ∨ (arrV _ _ _).slots.size ≤ _); rw [arrV_size]; exact hin) rfl rfl hdg fun H1 e1 z oq => ?_
  refine kk H1 _ (hR.put h2 rfl rfl (fun a ha => up2_off _ _ _ _ a ha) (fun _ _ => rfl) (fun _ _ => rfl) ?_ z oq)
  rw [ce_arr (h := stI h i x.toNatClampNeg (vp_nar .boolean y)) (t := 3) hk (Or.inr (Or.inr ⟨rfl, rfl⟩)), stI_row]
  show H1[adr g i]? = some (vp_cell _ _)
  rw [e1, vp_cell_i, vp_cell_i, arrV_store]
  congr 2
  funext q
  by_cases hq : q = x.toNatClampNeg
  · subst hq
    simp [updV, upd, vp_nar]
    try rfl
  · simp [updV, upd, hq]
theorem lastW {x : Int32} {y : Int64} (C : Cx p s m args meth c k g Ls xs D cA) (hR : Rel g Ls xs D cA s.heap h H locs) (h2 : 2 ≤ i) (hk : (AK h i).1 = 21) (hi : inR h i x = true) (hdg : decode (mCode k) pc = .ok (.lastore, 1))
    (kk : ∀ (H1 : Heap) (locs1 : List Loc), Rel g Ls xs D cA s.heap (stL h i x.toNatClampNeg y) H1 locs1 → W p l e R s m args below meth c H1 locs1 cells slots Q (F0 m (pc + 1) ls rest)) : W p l e R s m args below meth c H locs cells slots Q (F0 m pc ls (.long y :: .int x :: .ref (adr g i) :: rest)) := by
  obtain ⟨hx, hb, hml, hown, hts, hnm, hret, hlk, hW⟩ := C
  have hin := inR_in hi
  have he := hR.at h2 (by omega)
  rw [ce_long hk] at he
  refine W.last hx hb (hR.2.1 _ _ he) ((hW.1.2 1 _ rfl).1 (AK h i).2 (fun j => .long (AL h i j))) (fun q => by cases q) (by show ¬ (x < 0 ∨ (arrV _ _ _).slots.size ≤ _); rw [arrV_size]; exact hin) rfl rfl hdg fun H1 e1 z oq => ?_
  refine kk H1 _ (hR.put h2 rfl rfl (fun _ _ => rfl) (fun a ha => up2_off _ _ _ _ a ha) (fun _ _ => rfl) ?_ z oq)
  rw [ce_long (h := stL h i x.toNatClampNeg y) hk, stL_row]
  show H1[adr g i]? = some (vp_cell _ _)
  rw [e1, vp_cell_l, vp_cell_l, arrV_store]
  congr 2
  funext q
  by_cases hq : q = x.toNatClampNeg
  · subst hq
    simp [updV, vp_updL]
  · simp [updV, vp_updL, hq]
theorem aastW {x : Int32} {y : Nat} (C : Cx p s m args meth c k g Ls xs D cA) (hR : Rel g Ls xs D cA s.heap h H locs) (h2 : 2 ≤ i) (hk : (AK h i).1 = 24) (hi : inR h i x = true) (hy : 2 ≤ y) (hyk : (AK h y).1 = 7 ∨ castY.contains ((AK h y).1, 7) = true) (hy13 : (AK h y).1 < 13) (hdg : decode (mCode k) pc = .ok (.aastore, 1))
    (kk : ∀ (H1 : Heap) (locs1 : List Loc), Rel g Ls xs D cA s.heap (stR h i x.toNatClampNeg (some y)) H1 locs1 → W p l e R s m args below meth c H1 locs1 cells slots Q (F0 m (pc + 1) ls rest)) : W p l e R s m args below meth c H locs cells slots Q (F0 m pc ls (.ref (adr g y) :: .int x :: .ref (adr g i) :: rest)) := by
  obtain ⟨hx, hb, hml, hown, hts, hnm, hret, hlk, hW⟩ := C
  have hin := inR_in hi
  have he := hR.at h2 (by omega)
  rw [ce_ref hk] at he
  have hv := hR.at hy (by omega)
  rw [ce_obj hy13] at hv
  obtain ⟨q1, q2, q3, q4⟩ := clsP _ hy13
  have hlt : x.toNatClampNeg < (AK h i).2 := Nat.not_le.mp fun q => hin (Or.inr q)
  have h0 : ¬ x < 0 := fun q => hin (Or.inl q)
  obtain ⟨r', hr', cellV, g1, g2, g3, -⟩ := hR.2.1 _ _ hv
  have hcls := (hW.1.1 _ _ q1).2
  obtain ⟨kA, comp, k1, k2, k3, -⟩ := (hW.1.2 4 _ rfl).2
  obtain ⟨kE, hkE, -⟩ := Vm.findClass_spec k3
  obtain ⟨kC, hkC, -⟩ := hcls.2
  have f3 : s.vm.assignable (D.1 (AK h y).1) comp = true := by
    rcases hyk with z | z
    · have hp7 := (clsP 7 (by decide)).1
      have hcls7 := (hW.1.1 _ _ hp7).2
      have e7 : comp = D.1 7 := Option.some.inj (k3.symm.trans hcls7.1)
      rw [z, e7]
      exact va_assign hcls7
    · have hca := hW.2.2.1 ((AK h y).1, 7) (List.contains_iff_mem.mp z)
      obtain ⟨c0, t1, f1, f2, f3⟩ := Cond.castable_spec (va_Nw.use (A := args) rfl hca)
      cases hcls.1.symm.trans f1
      cases k3.symm.trans f2
      exact f3
  refine W.aast hx hb (hR.2.1 _ _ he) (fun q h => by cases h) (fun h => by cases h) k1 k2 rfl hkE ⟨h0, by show _ < (arrV _ _ _).slots.size; rw [arrV_size]; exact hlt⟩ g1 (fun q h => by rw [g3] at h; cases h) (by rw [g2]; exact hkC) (by rw [g2]; exact f3) rfl rfl hdg fun H1 e1 z oq => ?_
  refine kk H1 _ (hR.put h2 rfl rfl (fun _ _ => rfl) (fun _ _ => rfl) (fun a ha => up2_off _ _ _ _ a ha) ?_ z oq)
  rw [ce_ref (h := stR h i x.toNatClampNeg (some y)) hk, stR_row]
  show H1[adr g i]? = some (vp_cell _ _)
  rw [e1, vp_cell_q, vp_cell_q, arrV_store]
  congr 2
  funext q
  by_cases hq : q = x.toNatClampNeg
  · subst hq
    simp [updV, va_up, va_rf]
  · simp [updV, va_up, hq]
end HEAPS
end
section
/-! calls and steps over the abstract heap -/
theorem lookup_in {α : Type} {l : List (Nat × α)} {a : Nat} {b : α} (h : l.lookup a = some b) : (a, b) ∈ l := by
  induction l with
  | nil => cases h
  | cons q r ih =>
    obtain ⟨x, y⟩ := q
    rw [List.lookup_cons] at h
    split at h
    · rename_i z
      have := eq_of_beq z
      cases h
      subst this
      exact List.mem_cons_self
    · exact List.mem_cons_of_mem _ (ih h)
def OkP (k : Nat) : Prop := ((opL k).all fun e => decide (decode (mCode k) e.1 = .ok (e.2.2.1, e.2.1))) = true ∧ chkL k (opL k) = true

theorem okP_0 : OkP 0 := ⟨de_0, ck_0⟩
theorem okA_0 : ∀ a, a < 1 → OkP a := lt_s (lt_0 (p := OkP)) okP_0
theorem okP_1 : OkP 1 := ⟨de_1, ck_1⟩
theorem okA_1 : ∀ a, a < 2 → OkP a := lt_s okA_0 okP_1
theorem okP_2 : OkP 2 := ⟨de_2, ck_2⟩
theorem okA_2 : ∀ a, a < 3 → OkP a := lt_s okA_1 okP_2
theorem okP_3 : OkP 3 := ⟨de_3, ck_3⟩
theorem okA_3 : ∀ a, a < 4 → OkP a := lt_s okA_2 okP_3
theorem okP_4 : OkP 4 := ⟨de_4, ck_4⟩
theorem okA_4 : ∀ a, a < 5 → OkP a := lt_s okA_3 okP_4
theorem okP_5 : OkP 5 := ⟨de_5, ck_5⟩
theorem okA_5 : ∀ a, a < 6 → OkP a := lt_s okA_4 okP_5
theorem okP_6 : OkP 6 := ⟨de_6, ck_6⟩
theorem okA_6 : ∀ a, a < 7 → OkP a := lt_s okA_5 okP_6
theorem okP_7 : OkP 7 := ⟨de_7, ck_7⟩
theorem okA_7 : ∀ a, a < 8 → OkP a := lt_s okA_6 okP_7
theorem okP_8 : OkP 8 := ⟨de_8, ck_8⟩
theorem okA_8 : ∀ a, a < 9 → OkP a := lt_s okA_7 okP_8
theorem okP_9 : OkP 9 := ⟨de_9, ck_9⟩
theorem okA_9 : ∀ a, a < 10 → OkP a := lt_s okA_8 okP_9
theorem okP_10 : OkP 10 := ⟨de_10, ck_10⟩
theorem okA_10 : ∀ a, a < 11 → OkP a := lt_s okA_9 okP_10
theorem okP_11 : OkP 11 := ⟨de_11, ck_11⟩
theorem okA_11 : ∀ a, a < 12 → OkP a := lt_s okA_10 okP_11
theorem okP_12 : OkP 12 := ⟨de_12, ck_12⟩
theorem okA_12 : ∀ a, a < 13 → OkP a := lt_s okA_11 okP_12
theorem okP_13 : OkP 13 := ⟨de_13, ck_13⟩
theorem okA_13 : ∀ a, a < 14 → OkP a := lt_s okA_12 okP_13
theorem okP_14 : OkP 14 := ⟨de_14, ck_14⟩
theorem okA_14 : ∀ a, a < 15 → OkP a := lt_s okA_13 okP_14
theorem okP_15 : OkP 15 := ⟨de_15, ck_15⟩
theorem okA_15 : ∀ a, a < 16 → OkP a := lt_s okA_14 okP_15
theorem okP_16 : OkP 16 := ⟨de_16, ck_16⟩
theorem okA_16 : ∀ a, a < 17 → OkP a := lt_s okA_15 okP_16
theorem okP_17 : OkP 17 := ⟨de_17, ck_17⟩
theorem okA_17 : ∀ a, a < 18 → OkP a := lt_s okA_16 okP_17
theorem okP_18 : OkP 18 := ⟨de_18, ck_18⟩
theorem okA_18 : ∀ a, a < 19 → OkP a := lt_s okA_17 okP_18
theorem okP_19 : OkP 19 := ⟨de_19, ck_19⟩
theorem okA_19 : ∀ a, a < 20 → OkP a := lt_s okA_18 okP_19
theorem okP_20 : OkP 20 := ⟨de_20, ck_20⟩
theorem okA_20 : ∀ a, a < 21 → OkP a := lt_s okA_19 okP_20
theorem okP_21 : OkP 21 := ⟨de_21, ck_21⟩
theorem okA_21 : ∀ a, a < 22 → OkP a := lt_s okA_20 okP_21
theorem okP_22 : OkP 22 := ⟨de_22, ck_22⟩
theorem okA_22 : ∀ a, a < 23 → OkP a := lt_s okA_21 okP_22
theorem okP_23 : OkP 23 := ⟨de_23, ck_23⟩
theorem okA_23 : ∀ a, a < 24 → OkP a := lt_s okA_22 okP_23
theorem okP_24 : OkP 24 := ⟨de_24, ck_24⟩
theorem okA_24 : ∀ a, a < 25 → OkP a := lt_s okA_23 okP_24
theorem okP_25 : OkP 25 := ⟨de_25, ck_25⟩
theorem okA_25 : ∀ a, a < 26 → OkP a := lt_s okA_24 okP_25
theorem okP_26 : OkP 26 := ⟨de_26, ck_26⟩
theorem okA_26 : ∀ a, a < 27 → OkP a := lt_s okA_25 okP_26
theorem okP_27 : OkP 27 := ⟨de_27, ck_27⟩
theorem okA_27 : ∀ a, a < 28 → OkP a := lt_s okA_26 okP_27
theorem okP_28 : OkP 28 := ⟨de_28, ck_28⟩
theorem okA_28 : ∀ a, a < 29 → OkP a := lt_s okA_27 okP_28
theorem okP_29 : OkP 29 := ⟨de_29, ck_29⟩
theorem okA_29 : ∀ a, a < 30 → OkP a := lt_s okA_28 okP_29
theorem okP_30 : OkP 30 := ⟨de_30, ck_30⟩
theorem okA_30 : ∀ a, a < 31 → OkP a := lt_s okA_29 okP_30
theorem okP_31 : OkP 31 := ⟨de_31, ck_31⟩
theorem okA_31 : ∀ a, a < 32 → OkP a := lt_s okA_30 okP_31
theorem okP_32 : OkP 32 := ⟨de_32, ck_32⟩
theorem okA_32 : ∀ a, a < 33 → OkP a := lt_s okA_31 okP_32
theorem okP_33 : OkP 33 := ⟨de_33, ck_33⟩
theorem okA_33 : ∀ a, a < 34 → OkP a := lt_s okA_32 okP_33
theorem okP_34 : OkP 34 := ⟨de_34, ck_34⟩
theorem okA_34 : ∀ a, a < 35 → OkP a := lt_s okA_33 okP_34
theorem okP_35 : OkP 35 := ⟨de_35, ck_35⟩
theorem okA_35 : ∀ a, a < 36 → OkP a := lt_s okA_34 okP_35
theorem okP_36 : OkP 36 := ⟨de_36, ck_36⟩
theorem okA_36 : ∀ a, a < 37 → OkP a := lt_s okA_35 okP_36
theorem okP_37 : OkP 37 := ⟨de_37, ck_37⟩
theorem okA_37 : ∀ a, a < 38 → OkP a := lt_s okA_36 okP_37
theorem okP_38 : OkP 38 := ⟨de_38, ck_38⟩
theorem okA_38 : ∀ a, a < 39 → OkP a := lt_s okA_37 okP_38
theorem okP_39 : OkP 39 := ⟨de_39, ck_39⟩
theorem okA_39 : ∀ a, a < 40 → OkP a := lt_s okA_38 okP_39
theorem okP_40 : OkP 40 := ⟨de_40, ck_40⟩
theorem okA_40 : ∀ a, a < 41 → OkP a := lt_s okA_39 okP_40
theorem okP_41 : OkP 41 := ⟨de_41, ck_41⟩
theorem okA_41 : ∀ a, a < 42 → OkP a := lt_s okA_40 okP_41
theorem okP_42 : OkP 42 := ⟨de_42, ck_42⟩
theorem okA_42 : ∀ a, a < 43 → OkP a := lt_s okA_41 okP_42
theorem okP_43 : OkP 43 := ⟨de_43, ck_43⟩
theorem okA_43 : ∀ a, a < 44 → OkP a := lt_s okA_42 okP_43
theorem okP_44 : OkP 44 := ⟨de_44, ck_44⟩
theorem okA_44 : ∀ a, a < 45 → OkP a := lt_s okA_43 okP_44
theorem okP_45 : OkP 45 := ⟨de_45, ck_45⟩
theorem okA_45 : ∀ a, a < 46 → OkP a := lt_s okA_44 okP_45
theorem okP_46 : OkP 46 := ⟨de_46, ck_46⟩
theorem okA_46 : ∀ a, a < 47 → OkP a := lt_s okA_45 okP_46
theorem okP_47 : OkP 47 := ⟨de_47, ck_47⟩
theorem okA_47 : ∀ a, a < 48 → OkP a := lt_s okA_46 okP_47
theorem okP_48 : OkP 48 := ⟨de_48, ck_48⟩
theorem okA_48 : ∀ a, a < 49 → OkP a := lt_s okA_47 okP_48
theorem okP_49 : OkP 49 := ⟨de_49, ck_49⟩
theorem okA_49 : ∀ a, a < 50 → OkP a := lt_s okA_48 okP_49
theorem okP_50 : OkP 50 := ⟨de_50, ck_50⟩
theorem okA_50 : ∀ a, a < 51 → OkP a := lt_s okA_49 okP_50
theorem okP_51 : OkP 51 := ⟨de_51, ck_51⟩
theorem okA_51 : ∀ a, a < 52 → OkP a := lt_s okA_50 okP_51
theorem okP_52 : OkP 52 := ⟨de_52, ck_52⟩
theorem okA_52 : ∀ a, a < 53 → OkP a := lt_s okA_51 okP_52
theorem okP_53 : OkP 53 := ⟨de_53, ck_53⟩
theorem okA_53 : ∀ a, a < 54 → OkP a := lt_s okA_52 okP_53
theorem okP_54 : OkP 54 := ⟨de_54, ck_54⟩
theorem okA_54 : ∀ a, a < 55 → OkP a := lt_s okA_53 okP_54
theorem okP_55 : OkP 55 := ⟨de_55, ck_55⟩
theorem okA_55 : ∀ a, a < 56 → OkP a := lt_s okA_54 okP_55
theorem okP_56 : OkP 56 := ⟨de_56, ck_56⟩
theorem okA_56 : ∀ a, a < 57 → OkP a := lt_s okA_55 okP_56
theorem okP_57 : OkP 57 := ⟨de_57, ck_57⟩
theorem okA_57 : ∀ a, a < 58 → OkP a := lt_s okA_56 okP_57
theorem okP_58 : OkP 58 := ⟨de_58, ck_58⟩
theorem okA_58 : ∀ a, a < 59 → OkP a := lt_s okA_57 okP_58
theorem okP_59 : OkP 59 := ⟨de_59, ck_59⟩
theorem okA_59 : ∀ a, a < 60 → OkP a := lt_s okA_58 okP_59
theorem okP_60 : OkP 60 := ⟨de_60, ck_60⟩
theorem okA_60 : ∀ a, a < 61 → OkP a := lt_s okA_59 okP_60
theorem okP_61 : OkP 61 := ⟨de_61, ck_61⟩
theorem okA_61 : ∀ a, a < 62 → OkP a := lt_s okA_60 okP_61
theorem okP_62 : OkP 62 := ⟨de_62, ck_62⟩
theorem okA_62 : ∀ a, a < 63 → OkP a := lt_s okA_61 okP_62
theorem okP_63 : OkP 63 := ⟨de_63, ck_63⟩
theorem okA_63 : ∀ a, a < 64 → OkP a := lt_s okA_62 okP_63
theorem okP_64 : OkP 64 := ⟨de_64, ck_64⟩
theorem okA_64 : ∀ a, a < 65 → OkP a := lt_s okA_63 okP_64
theorem okP_65 : OkP 65 := ⟨de_65, ck_65⟩
theorem okA_65 : ∀ a, a < 66 → OkP a := lt_s okA_64 okP_65
theorem okP_66 : OkP 66 := ⟨de_66, ck_66⟩
theorem okA_66 : ∀ a, a < 67 → OkP a := lt_s okA_65 okP_66
theorem okP_67 : OkP 67 := ⟨de_67, ck_67⟩
theorem okA_67 : ∀ a, a < 68 → OkP a := lt_s okA_66 okP_67
theorem okP_68 : OkP 68 := ⟨de_68, ck_68⟩
theorem okA_68 : ∀ a, a < 69 → OkP a := lt_s okA_67 okP_68
theorem okP_69 : OkP 69 := ⟨de_69, ck_69⟩
theorem okA_69 : ∀ a, a < 70 → OkP a := lt_s okA_68 okP_69
theorem okP_70 : OkP 70 := ⟨de_70, ck_70⟩
theorem okA_70 : ∀ a, a < 71 → OkP a := lt_s okA_69 okP_70
theorem okP_71 : OkP 71 := ⟨de_71, ck_71⟩
theorem okA_71 : ∀ a, a < 72 → OkP a := lt_s okA_70 okP_71
theorem okP_72 : OkP 72 := ⟨de_72, ck_72⟩
theorem okA_72 : ∀ a, a < 73 → OkP a := lt_s okA_71 okP_72
theorem okP_73 : OkP 73 := ⟨de_73, ck_73⟩
theorem okA_73 : ∀ a, a < 74 → OkP a := lt_s okA_72 okP_73
theorem okP_74 : OkP 74 := ⟨de_74, ck_74⟩
theorem okA_74 : ∀ a, a < 75 → OkP a := lt_s okA_73 okP_74
theorem okP_75 : OkP 75 := ⟨de_75, ck_75⟩
theorem okA_75 : ∀ a, a < 76 → OkP a := lt_s okA_74 okP_75
theorem okP_76 : OkP 76 := ⟨de_76, ck_76⟩
theorem okA_76 : ∀ a, a < 77 → OkP a := lt_s okA_75 okP_76
theorem okP_77 : OkP 77 := ⟨de_77, ck_77⟩
theorem okA_77 : ∀ a, a < 78 → OkP a := lt_s okA_76 okP_77
theorem okP_78 : OkP 78 := ⟨de_78, ck_78⟩
theorem okA_78 : ∀ a, a < 79 → OkP a := lt_s okA_77 okP_78
theorem okP_79 : OkP 79 := ⟨de_79, ck_79⟩
theorem okA_79 : ∀ a, a < 80 → OkP a := lt_s okA_78 okP_79
theorem okP_80 : OkP 80 := ⟨de_80, ck_80⟩
theorem okA_80 : ∀ a, a < 81 → OkP a := lt_s okA_79 okP_80
theorem okP_81 : OkP 81 := ⟨de_81, ck_81⟩
theorem okA_81 : ∀ a, a < 82 → OkP a := lt_s okA_80 okP_81
theorem okP_82 : OkP 82 := ⟨de_82, ck_82⟩
theorem okA_82 : ∀ a, a < 83 → OkP a := lt_s okA_81 okP_82
theorem okP_83 : OkP 83 := ⟨de_83, ck_83⟩
theorem okA_83 : ∀ a, a < 84 → OkP a := lt_s okA_82 okP_83
theorem okP_84 : OkP 84 := ⟨de_84, ck_84⟩
theorem okA_84 : ∀ a, a < 85 → OkP a := lt_s okA_83 okP_84
theorem okP_85 : OkP 85 := ⟨de_85, ck_85⟩
theorem okA_85 : ∀ a, a < 86 → OkP a := lt_s okA_84 okP_85
theorem okP_86 : OkP 86 := ⟨de_86, ck_86⟩
theorem okA_86 : ∀ a, a < 87 → OkP a := lt_s okA_85 okP_86
theorem okP_87 : OkP 87 := ⟨de_87, ck_87⟩
theorem okA_87 : ∀ a, a < 88 → OkP a := lt_s okA_86 okP_87
theorem okP_88 : OkP 88 := ⟨de_88, ck_88⟩
theorem okA_88 : ∀ a, a < 89 → OkP a := lt_s okA_87 okP_88
theorem okP_89 : OkP 89 := ⟨de_89, ck_89⟩
theorem okA_89 : ∀ a, a < 90 → OkP a := lt_s okA_88 okP_89
theorem okP_90 : OkP 90 := ⟨de_90, ck_90⟩
theorem okA_90 : ∀ a, a < 91 → OkP a := lt_s okA_89 okP_90
theorem okP_91 : OkP 91 := ⟨de_91, ck_91⟩
theorem okA_91 : ∀ a, a < 92 → OkP a := lt_s okA_90 okP_91
theorem okP_92 : OkP 92 := ⟨de_92, ck_92⟩
theorem okA_92 : ∀ a, a < 93 → OkP a := lt_s okA_91 okP_92
theorem okP_93 : OkP 93 := ⟨de_93, ck_93⟩
theorem okA_93 : ∀ a, a < 94 → OkP a := lt_s okA_92 okP_93
theorem okP_94 : OkP 94 := ⟨de_94, ck_94⟩
theorem okA_94 : ∀ a, a < 95 → OkP a := lt_s okA_93 okP_94
theorem okP_95 : OkP 95 := ⟨de_95, ck_95⟩
theorem okA_95 : ∀ a, a < 96 → OkP a := lt_s okA_94 okP_95
theorem okP_96 : OkP 96 := ⟨de_96, ck_96⟩
theorem okA_96 : ∀ a, a < 97 → OkP a := lt_s okA_95 okP_96
theorem okP_97 : OkP 97 := ⟨de_97, ck_97⟩
theorem okA_97 : ∀ a, a < 98 → OkP a := lt_s okA_96 okP_97
theorem okP_98 : OkP 98 := ⟨de_98, ck_98⟩
theorem okA_98 : ∀ a, a < 99 → OkP a := lt_s okA_97 okP_98
theorem okP_99 : OkP 99 := ⟨de_99, ck_99⟩
theorem okA_99 : ∀ a, a < 100 → OkP a := lt_s okA_98 okP_99
theorem okP_100 : OkP 100 := ⟨de_100, ck_100⟩
theorem okA_100 : ∀ a, a < 101 → OkP a := lt_s okA_99 okP_100
theorem okP_101 : OkP 101 := ⟨de_101, ck_101⟩
theorem okA_101 : ∀ a, a < 102 → OkP a := lt_s okA_100 okP_101
theorem okP_102 : OkP 102 := ⟨de_102, ck_102⟩
theorem okA_102 : ∀ a, a < 103 → OkP a := lt_s okA_101 okP_102
theorem okP_103 : OkP 103 := ⟨de_103, ck_103⟩
theorem okA_103 : ∀ a, a < 104 → OkP a := lt_s okA_102 okP_103
theorem okP_104 : OkP 104 := ⟨de_104, ck_104⟩
theorem okA_104 : ∀ a, a < 105 → OkP a := lt_s okA_103 okP_104
theorem okP_105 : OkP 105 := ⟨de_105, ck_105⟩
theorem okA_105 : ∀ a, a < 106 → OkP a := lt_s okA_104 okP_105
theorem okP_106 : OkP 106 := ⟨de_106, ck_106⟩
theorem okA_106 : ∀ a, a < 107 → OkP a := lt_s okA_105 okP_106
theorem okP_107 : OkP 107 := ⟨de_107, ck_107⟩
theorem okA_107 : ∀ a, a < 108 → OkP a := lt_s okA_106 okP_107
theorem okP_108 : OkP 108 := ⟨de_108, ck_108⟩
theorem okA_108 : ∀ a, a < 109 → OkP a := lt_s okA_107 okP_108
theorem okP_109 : OkP 109 := ⟨de_109, ck_109⟩
theorem okA_109 : ∀ a, a < 110 → OkP a := lt_s okA_108 okP_109
theorem okP_110 : OkP 110 := ⟨de_110, ck_110⟩
theorem okA_110 : ∀ a, a < 111 → OkP a := lt_s okA_109 okP_110
theorem okP_111 : OkP 111 := ⟨de_111, ck_111⟩
theorem okA_111 : ∀ a, a < 112 → OkP a := lt_s okA_110 okP_111
theorem okP_112 : OkP 112 := ⟨de_112, ck_112⟩
theorem okA_112 : ∀ a, a < 113 → OkP a := lt_s okA_111 okP_112
theorem okP_113 : OkP 113 := ⟨de_113, ck_113⟩
theorem okA_113 : ∀ a, a < 114 → OkP a := lt_s okA_112 okP_113
theorem okP_114 : OkP 114 := ⟨de_114, ck_114⟩
theorem okA_114 : ∀ a, a < 115 → OkP a := lt_s okA_113 okP_114
theorem okP_115 : OkP 115 := ⟨de_115, ck_115⟩
theorem okA_115 : ∀ a, a < 116 → OkP a := lt_s okA_114 okP_115
theorem okP_116 : OkP 116 := ⟨de_116, ck_116⟩
theorem okA_116 : ∀ a, a < 117 → OkP a := lt_s okA_115 okP_116
theorem okP_117 : OkP 117 := ⟨de_117, ck_117⟩
theorem okA_117 : ∀ a, a < 118 → OkP a := lt_s okA_116 okP_117
theorem okP_118 : OkP 118 := ⟨de_118, ck_118⟩
theorem okA_118 : ∀ a, a < 119 → OkP a := lt_s okA_117 okP_118
theorem okP_119 : OkP 119 := ⟨de_119, ck_119⟩
theorem okA_119 : ∀ a, a < 120 → OkP a := lt_s okA_118 okP_119
theorem okP_120 : OkP 120 := ⟨de_120, ck_120⟩
theorem okA_120 : ∀ a, a < 121 → OkP a := lt_s okA_119 okP_120
theorem okP_121 : OkP 121 := ⟨de_121, ck_121⟩
theorem okA_121 : ∀ a, a < 122 → OkP a := lt_s okA_120 okP_121
theorem okP_122 : OkP 122 := ⟨de_122, ck_122⟩
theorem okA_122 : ∀ a, a < 123 → OkP a := lt_s okA_121 okP_122
theorem okP_123 : OkP 123 := ⟨de_123, ck_123⟩
theorem okA_123 : ∀ a, a < 124 → OkP a := lt_s okA_122 okP_123
theorem okP_124 : OkP 124 := ⟨de_124, ck_124⟩
theorem okA_124 : ∀ a, a < 125 → OkP a := lt_s okA_123 okP_124
theorem okP_125 : OkP 125 := ⟨de_125, ck_125⟩
theorem okA_125 : ∀ a, a < 126 → OkP a := lt_s okA_124 okP_125
theorem okP_126 : OkP 126 := ⟨de_126, ck_126⟩
theorem okA_126 : ∀ a, a < 127 → OkP a := lt_s okA_125 okP_126
theorem okP_127 : OkP 127 := ⟨de_127, ck_127⟩
theorem okA_127 : ∀ a, a < 128 → OkP a := lt_s okA_126 okP_127
theorem okP_128 : OkP 128 := ⟨de_128, ck_128⟩
theorem okA_128 : ∀ a, a < 129 → OkP a := lt_s okA_127 okP_128
theorem okP_129 : OkP 129 := ⟨de_129, ck_129⟩
theorem okA_129 : ∀ a, a < 130 → OkP a := lt_s okA_128 okP_129
theorem okP_130 : OkP 130 := ⟨de_130, ck_130⟩
theorem okA_130 : ∀ a, a < 131 → OkP a := lt_s okA_129 okP_130
theorem okP_131 : OkP 131 := ⟨de_131, ck_131⟩
theorem okA_131 : ∀ a, a < 132 → OkP a := lt_s okA_130 okP_131
theorem okP_132 : OkP 132 := ⟨de_132, ck_132⟩
theorem okA_132 : ∀ a, a < 133 → OkP a := lt_s okA_131 okP_132
theorem okP_133 : OkP 133 := ⟨de_133, ck_133⟩
theorem okA_133 : ∀ a, a < 134 → OkP a := lt_s okA_132 okP_133
theorem okP_134 : OkP 134 := ⟨de_134, ck_134⟩
theorem okA_134 : ∀ a, a < 135 → OkP a := lt_s okA_133 okP_134
theorem okP_135 : OkP 135 := ⟨de_135, ck_135⟩
theorem okA_135 : ∀ a, a < 136 → OkP a := lt_s okA_134 okP_135
theorem okP_136 : OkP 136 := ⟨de_136, ck_136⟩
theorem okA_136 : ∀ a, a < 137 → OkP a := lt_s okA_135 okP_136
theorem okP_137 : OkP 137 := ⟨de_137, ck_137⟩
theorem okA_137 : ∀ a, a < 138 → OkP a := lt_s okA_136 okP_137
theorem okP_138 : OkP 138 := ⟨de_138, ck_138⟩
theorem okA_138 : ∀ a, a < 139 → OkP a := lt_s okA_137 okP_138
theorem okP_139 : OkP 139 := ⟨de_139, ck_139⟩
theorem okA_139 : ∀ a, a < 140 → OkP a := lt_s okA_138 okP_139
theorem okP_140 : OkP 140 := ⟨de_140, ck_140⟩
theorem okA_140 : ∀ a, a < 141 → OkP a := lt_s okA_139 okP_140
theorem okP_141 : OkP 141 := ⟨de_141, ck_141⟩
theorem okA_141 : ∀ a, a < 142 → OkP a := lt_s okA_140 okP_141
theorem okP_142 : OkP 142 := ⟨de_142, ck_142⟩
theorem okA_142 : ∀ a, a < 143 → OkP a := lt_s okA_141 okP_142
theorem okP_143 : OkP 143 := ⟨de_143, ck_143⟩
theorem okA_143 : ∀ a, a < 144 → OkP a := lt_s okA_142 okP_143
theorem okP_144 : OkP 144 := ⟨de_144, ck_144⟩
theorem okA_144 : ∀ a, a < 145 → OkP a := lt_s okA_143 okP_144
theorem okP_145 : OkP 145 := ⟨de_145, ck_145⟩
theorem okA_145 : ∀ a, a < 146 → OkP a := lt_s okA_144 okP_145
theorem okP_146 : OkP 146 := ⟨de_146, ck_146⟩
theorem okA_146 : ∀ a, a < 147 → OkP a := lt_s okA_145 okP_146
theorem okP_147 : OkP 147 := ⟨de_147, ck_147⟩
theorem okA_147 : ∀ a, a < 148 → OkP a := lt_s okA_146 okP_147
theorem okP_148 : OkP 148 := ⟨de_148, ck_148⟩
theorem okA_148 : ∀ a, a < 149 → OkP a := lt_s okA_147 okP_148
theorem okP_149 : OkP 149 := ⟨de_149, ck_149⟩
theorem okA_149 : ∀ a, a < 150 → OkP a := lt_s okA_148 okP_149
theorem okP_150 : OkP 150 := ⟨de_150, ck_150⟩
theorem okA_150 : ∀ a, a < 151 → OkP a := lt_s okA_149 okP_150
theorem okP_151 : OkP 151 := ⟨de_151, ck_151⟩
theorem okA_151 : ∀ a, a < 152 → OkP a := lt_s okA_150 okP_151
theorem okP_152 : OkP 152 := ⟨de_152, ck_152⟩
theorem okA_152 : ∀ a, a < 153 → OkP a := lt_s okA_151 okP_152
theorem okP_153 : OkP 153 := ⟨de_153, ck_153⟩
theorem okA_153 : ∀ a, a < 154 → OkP a := lt_s okA_152 okP_153
theorem okP_154 : OkP 154 := ⟨de_154, ck_154⟩
theorem okA_154 : ∀ a, a < 155 → OkP a := lt_s okA_153 okP_154
theorem okP_155 : OkP 155 := ⟨de_155, ck_155⟩
theorem okA_155 : ∀ a, a < 156 → OkP a := lt_s okA_154 okP_155
theorem okP_156 : OkP 156 := ⟨de_156, ck_156⟩
theorem okA_156 : ∀ a, a < 157 → OkP a := lt_s okA_155 okP_156
theorem okP_157 : OkP 157 := ⟨de_157, ck_157⟩
theorem okA_157 : ∀ a, a < 158 → OkP a := lt_s okA_156 okP_157
theorem okP_158 : OkP 158 := ⟨de_158, ck_158⟩
theorem okA_158 : ∀ a, a < 159 → OkP a := lt_s okA_157 okP_158
theorem okP_159 : OkP 159 := ⟨de_159, ck_159⟩
theorem okA_159 : ∀ a, a < 160 → OkP a := lt_s okA_158 okP_159
theorem okP_160 : OkP 160 := ⟨de_160, ck_160⟩
theorem okA_160 : ∀ a, a < 161 → OkP a := lt_s okA_159 okP_160
theorem okP_161 : OkP 161 := ⟨de_161, ck_161⟩
theorem okA_161 : ∀ a, a < 162 → OkP a := lt_s okA_160 okP_161
theorem okP_162 : OkP 162 := ⟨de_162, ck_162⟩
theorem okA_162 : ∀ a, a < 163 → OkP a := lt_s okA_161 okP_162
theorem okP_163 : OkP 163 := ⟨de_163, ck_163⟩
theorem okA_163 : ∀ a, a < 164 → OkP a := lt_s okA_162 okP_163
theorem okP_164 : OkP 164 := ⟨de_164, ck_164⟩
theorem okA_164 : ∀ a, a < 165 → OkP a := lt_s okA_163 okP_164
theorem okP_165 : OkP 165 := ⟨de_165, ck_165⟩
theorem okA_165 : ∀ a, a < 166 → OkP a := lt_s okA_164 okP_165
theorem okP_166 : OkP 166 := ⟨de_166, ck_166⟩
theorem okA_166 : ∀ a, a < 167 → OkP a := lt_s okA_165 okP_166
theorem okP_167 : OkP 167 := ⟨de_167, ck_167⟩
theorem okA_167 : ∀ a, a < 168 → OkP a := lt_s okA_166 okP_167
theorem okP_168 : OkP 168 := ⟨de_168, ck_168⟩
theorem okA_168 : ∀ a, a < 169 → OkP a := lt_s okA_167 okP_168
theorem okP_169 : OkP 169 := ⟨de_169, ck_169⟩
theorem okA_169 : ∀ a, a < 170 → OkP a := lt_s okA_168 okP_169
theorem okP_170 : OkP 170 := ⟨de_170, ck_170⟩
theorem okA_170 : ∀ a, a < 171 → OkP a := lt_s okA_169 okP_170
theorem okP_171 : OkP 171 := ⟨de_171, ck_171⟩
theorem okA_171 : ∀ a, a < 172 → OkP a := lt_s okA_170 okP_171
theorem okP_172 : OkP 172 := ⟨de_172, ck_172⟩
theorem okA_172 : ∀ a, a < 173 → OkP a := lt_s okA_171 okP_172
theorem okP_173 : OkP 173 := ⟨de_173, ck_173⟩
theorem okA_173 : ∀ a, a < 174 → OkP a := lt_s okA_172 okP_173
theorem okP_174 : OkP 174 := ⟨de_174, ck_174⟩
theorem okA_174 : ∀ a, a < 175 → OkP a := lt_s okA_173 okP_174
theorem okP_175 : OkP 175 := ⟨de_175, ck_175⟩
theorem okA_175 : ∀ a, a < 176 → OkP a := lt_s okA_174 okP_175
theorem okP_176 : OkP 176 := ⟨de_176, ck_176⟩
theorem okA_176 : ∀ a, a < 177 → OkP a := lt_s okA_175 okP_176
theorem okP_177 : OkP 177 := ⟨de_177, ck_177⟩
theorem okA_177 : ∀ a, a < 178 → OkP a := lt_s okA_176 okP_177
theorem okP_178 : OkP 178 := ⟨de_178, ck_178⟩
theorem okA_178 : ∀ a, a < 179 → OkP a := lt_s okA_177 okP_178
theorem okP_179 : OkP 179 := ⟨de_179, ck_179⟩
theorem okA_179 : ∀ a, a < 180 → OkP a := lt_s okA_178 okP_179
theorem okP_180 : OkP 180 := ⟨de_180, ck_180⟩
theorem okA_180 : ∀ a, a < 181 → OkP a := lt_s okA_179 okP_180
theorem okP_181 : OkP 181 := ⟨de_181, ck_181⟩
theorem okA_181 : ∀ a, a < 182 → OkP a := lt_s okA_180 okP_181
theorem okP_182 : OkP 182 := ⟨de_182, ck_182⟩
theorem okA_182 : ∀ a, a < 183 → OkP a := lt_s okA_181 okP_182
theorem okP_183 : OkP 183 := ⟨de_183, ck_183⟩
theorem okA_183 : ∀ a, a < 184 → OkP a := lt_s okA_182 okP_183
theorem okP_184 : OkP 184 := ⟨de_184, ck_184⟩
theorem okA_184 : ∀ a, a < 185 → OkP a := lt_s okA_183 okP_184
theorem okP_185 : OkP 185 := ⟨de_185, ck_185⟩
theorem okA_185 : ∀ a, a < 186 → OkP a := lt_s okA_184 okP_185
theorem okP_186 : OkP 186 := ⟨de_186, ck_186⟩
theorem okA_186 : ∀ a, a < 187 → OkP a := lt_s okA_185 okP_186
theorem okP_187 : OkP 187 := ⟨de_187, ck_187⟩
theorem okA_187 : ∀ a, a < 188 → OkP a := lt_s okA_186 okP_187
theorem okP_188 : OkP 188 := ⟨de_188, ck_188⟩
theorem okA_188 : ∀ a, a < 189 → OkP a := lt_s okA_187 okP_188
theorem okP_189 : OkP 189 := ⟨de_189, ck_189⟩
theorem okA_189 : ∀ a, a < 190 → OkP a := lt_s okA_188 okP_189
theorem okP_190 : OkP 190 := ⟨de_190, ck_190⟩
theorem okA_190 : ∀ a, a < 191 → OkP a := lt_s okA_189 okP_190
theorem okP_191 : OkP 191 := ⟨de_191, ck_191⟩
theorem okA_191 : ∀ a, a < 192 → OkP a := lt_s okA_190 okP_191
theorem okP_192 : OkP 192 := ⟨de_192, ck_192⟩
theorem okA_192 : ∀ a, a < 193 → OkP a := lt_s okA_191 okP_192
theorem okP_193 : OkP 193 := ⟨de_193, ck_193⟩
theorem okA_193 : ∀ a, a < 194 → OkP a := lt_s okA_192 okP_193
theorem okP_194 : OkP 194 := ⟨de_194, ck_194⟩
theorem okA_194 : ∀ a, a < 195 → OkP a := lt_s okA_193 okP_194
theorem okP_195 : OkP 195 := ⟨de_195, ck_195⟩
theorem okA_195 : ∀ a, a < 196 → OkP a := lt_s okA_194 okP_195
theorem okP_196 : OkP 196 := ⟨de_196, ck_196⟩
theorem okA_196 : ∀ a, a < 197 → OkP a := lt_s okA_195 okP_196
theorem okP_197 : OkP 197 := ⟨de_197, ck_197⟩
theorem okA_197 : ∀ a, a < 198 → OkP a := lt_s okA_196 okP_197
theorem okP_198 : OkP 198 := ⟨de_198, ck_198⟩
theorem okA_198 : ∀ a, a < 199 → OkP a := lt_s okA_197 okP_198
theorem okP_199 : OkP 199 := ⟨de_199, ck_199⟩
theorem okA_199 : ∀ a, a < 200 → OkP a := lt_s okA_198 okP_199
theorem okP_200 : OkP 200 := ⟨de_200, ck_200⟩
theorem okA_200 : ∀ a, a < 201 → OkP a := lt_s okA_199 okP_200
theorem okP_201 : OkP 201 := ⟨de_201, ck_201⟩
theorem okA_201 : ∀ a, a < 202 → OkP a := lt_s okA_200 okP_201
theorem okP_202 : OkP 202 := ⟨de_202, ck_202⟩
theorem okA_202 : ∀ a, a < 203 → OkP a := lt_s okA_201 okP_202
theorem op_ok {k pc : Nat} {op : OpE} (hk : k < 203) (h : opAt k pc = some op) : decode (mCode k) pc = .ok (op.2.1, op.1) ∧ chk k pc op = true := by
  have hO : OkP k := okA_202 k hk
  unfold OkP chkL at hO
  unfold opAt at h
  generalize opL k = l at hO h
  have hm := lookup_in h
  have z1 := List.all_eq_true.mp hO.1 _ hm
  have z2 := List.all_eq_true.mp hO.2 _ hm
  dsimp only at z1 z2
  exact ⟨of_decide_eq_true z1, z2⟩
theorem mMax_le : ∀ j, j < 203 → mMax j ≤ 41 := by decide +kernel
def wsM (j : Nat) : List Jvm.Cond := wCode j :: tblG
theorem goodG {j : Nat} (hj : j < 200) : GoodIn tblG (wsM j) := by
  intro w hw
  have hin : w ∈ tblG := by
    rcases List.mem_cons.mp hw with rfl | h
    · exact wCode_in (by omega)
    · exact h
  exact ⟨hin, good_of_word (List.mem_filter.mp hin).2⟩
theorem mFacts {j : Nat} (hj : j < 200) : (Jvm.Cond.initialized (mName j).cls) ∈ tblG ∧ rcl (mOwn j) = (mName j).cls ∧ ((mName j).cls ≠ "java/lang/invoke/MethodHandle" ∧ (mName j).cls ≠ "java/lang/invoke/VarHandle" ∧ (parseMethodDescriptor (mName j).desc).map (fun d => d.parameters.length) = some (mArg j)) ∧ plainName (mName j).cls = true := by
  have h := mChk_all j hj
  simp only [mChk, Bool.and_eq_true, decide_eq_true_eq] at h
  obtain ⟨⟨⟨⟨⟨h1, h2⟩, h3⟩, h4⟩, h5⟩, h6⟩ := h
  exact ⟨tAt_in h1, h2, ⟨h3, h4, h5⟩, h6⟩
def rmD (d mc ms : Nat) : Room := { frames := d + 1, cells := mc, slots := ms, locals := 60 * (d + 1) }
section RUNS
variable {p : Program} {l : Launch} {e : Env} {R : Room} {s : State} {m : MethodId} {args : Array Value} {below : List Frame} {meth : Method} {c : Code} {H : Heap} {locs : List Loc} {cells slots : Nat} {Q : State → Prop} {pc : Nat} {ls : Array Slot} {rest : List Value}
variable {g : Nat × Nat × Nat} {Ls : Nat} {xs : Nat → Int32} {D : va_G} {cA : Nat → ClassId} {h h' : AH} {k i : Nat}
variable {j d mc ms idx ci a : Nat} {As : List Value} {Pc : Array Value → State → Prop} {Qc : Array Value → State → Outcome → State → Prop} {free : Addr → Prop}
theorem runV (C : Cx p s m args meth c k g Ls xs D cA) (hM : Met l (mName j) (wsM j) (rmD d mc ms) Pc Qc mc ms free) (hv : vT.any (fun r => Nat.beq r.2.2.2.1 (mOwn k) && Nat.beq r.2.2.2.2.1 idx && Nat.beq r.2.2.2.2.2.1 ci && Nat.beq r.2.2.2.2.2.2 j) = true) (hfr : d + 2 ≤ R.frames) (hlo : 60 * (d + 2) ≤ R.locals) (hbl : FrameBlind Pc) (hcell : ∃ cell : Cell, H[a]? = some cell ∧ cell.vm.isStatics = false ∧ s.vm.findClass (rcl ci) = some cell.cls) (hPc : ∀ U : State, U.heap = H → s.WarmedH U.vm → Pc (Value.ref a :: As).toArray U) (hn : As.length = mArg j) (hsz : ls.size = mMax k) (hcat : (rest.map fun v => v.category).sum ≤ 8) (hdg : decode (mCode k) pc = .ok (.invokevirtual idx, 3)) (hf : cells + mc ≤ R.cells ∧ slots + ms ≤ R.slots) :
    va_Run p l e R s m args below meth c H locs cells slots mc ms (F0 m pc ls (As.reverse ++ .ref a :: rest)) rest (Qc (Value.ref a :: As).toArray) free := by
  obtain ⟨hx, hb, hml, hown, hts, hnm, hret, hlk, hW⟩ := C
  obtain ⟨r, hr, hv⟩ := List.any_eq_true.mp hv
  simp only [Bool.and_eq_true] at hv
  obtain ⟨⟨⟨h1, h2⟩, h3⟩, h4⟩ := hv
  have e1 := beqE h1
  have e2 := beqE h2
  have e3 := beqE h3
  have e4 := beqE h4
  have hf2 := List.all_eq_true.mp vT_ok r hr
  simp only [vChk, Bool.and_eq_true, decide_eq_true_eq] at hf2
  rw [e1, e2, e3, e4] at hf2
  obtain ⟨⟨⟨⟨q1, q2⟩, q3⟩, q4⟩, q5⟩ := hf2
  obtain ⟨f1, f2, f3, f4⟩ := mFacts q4
  have hmx := mMax_le j (by omega)
  exact va_runV (Ts := tblG) (own := rcl (mOwn k)) (C := rcl ci) ⟨hx, hb, hml, hown, hts⟩ hM ⟨callB_of (mArg j) hts (goodG q4) rfl rfl rfl (hts _ f1) (hts _ (tAt_in q1)) f3 ⟨by show d + 1 + 1 ≤ R.frames; omega, by show 8 + (mMax j + 11) + 60 * (d + 1) ≤ R.locals; omega⟩, hts _ (tAt_in q2), hts _ (tAt_in q3)⟩ ⟨hbl, hcell, hPc⟩ rfl hn hsz rfl (lv_room hcat) hdg hf
theorem runU (C : Cx p s m args meth c k g Ls xs D cA) (hM : Met l (mName j) (wsM j) (rmD d mc ms) Pc Qc mc ms free) (hv : uT.any (fun r => Nat.beq (r.getD 5 0) (mOwn k) && Nat.beq (r.getD 6 0) idx && Nat.beq (r.getD 7 0) ci && Nat.beq (r.getD 8 0) j) = true) (hfr : d + 2 ≤ R.frames) (hlo : 60 * (d + 2) ≤ R.locals) (hbl : FrameBlind Pc) (hcell : ∃ cell : Cell, H[a]? = some cell ∧ cell.vm.isStatics = false ∧ s.vm.findClass (rcl ci) = some cell.cls) (hPc : ∀ U : State, U.heap = H → s.WarmedH U.vm → Pc (Value.ref a :: As).toArray U) (hn : As.length = mArg j) (hsz : ls.size = mMax k) (hcat : (rest.map fun v => v.category).sum ≤ 8) (hdg : decode (mCode k) pc = .ok (.invokevirtual idx, 3)) (hf : cells + mc ≤ R.cells ∧ slots + ms ≤ R.slots) :
    va_Run p l e R s m args below meth c H locs cells slots mc ms (F0 m pc ls (As.reverse ++ .ref a :: rest)) rest (Qc (Value.ref a :: As).toArray) free := by
  obtain ⟨hx, hb, hml, hown, hts, hnm, hret, hlk, hW⟩ := C
  obtain ⟨r, hr, hv⟩ := List.any_eq_true.mp hv
  simp only [Bool.and_eq_true] at hv
  obtain ⟨⟨⟨h1, h2⟩, h3⟩, h4⟩ := hv
  have e1 := beqE h1
  have e2 := beqE h2
  have e3 := beqE h3
  have e4 := beqE h4
  have hf2 := List.all_eq_true.mp uT_ok r hr
  simp only [uChk, Bool.and_eq_true, decide_eq_true_eq] at hf2
  rw [e1, e2, e3, e4] at hf2
  generalize r.getD 9 0 = o at hf2
  obtain ⟨⟨⟨⟨⟨⟨⟨⟨q1, q2⟩, q3⟩, q4⟩, q5⟩, q6⟩, q7⟩, q8⟩, q9⟩ := hf2
  obtain ⟨f1, f2, f3, f4⟩ := mFacts q6
  obtain ⟨o1, o2, o3, o4⟩ := mFacts q7
  have hmx := mMax_le j (by omega)
  have good : ∀ {i : Nat} {w : Jvm.Cond}, tAt i w = true → w ∈ tblG ∧ ((w.onTables && w.keeps) = true ∨ ∃ ty, w = .arrayClass ty) := fun hw => ⟨tAt_in hw, good_of_word (List.mem_filter.mp (tAt_in hw)).2⟩
  refine va_runU (Ts := tblG) (own := rcl (mOwn k)) (C := rcl ci) (owner := (mName o).cls) (x := mName o) ⟨hx, hb, hml, hown, hts⟩ hM (va_cwO (ws' := tblG) (mArg j) hts ?_ rfl rfl rfl (b0 := mCode o) (m0 := mMax o) (r0 := mRet o) (wCode_in (by omega)) ⟨o3.1, o3.2.1, by rw [q9]; exact o3.2.2⟩ ⟨by show d + 1 + 1 ≤ R.frames; omega, by show 8 + (mMax j + 11) + 60 * (d + 1) ≤ R.locals; omega⟩) ⟨hbl, hcell, hPc⟩ rfl hn hsz rfl (lv_room hcat) hdg hf
  intro w hw
  unfold va_wsO at hw
  rcases List.mem_append.mp hw with hw | hw
  · simp only [List.mem_cons, List.not_mem_nil, or_false] at hw
    rcases hw with rfl | rfl | rfl | rfl | rfl | rfl
    · exact good q1
    · exact good q2
    · exact good q3
    · exact good q4
    · exact good q5
    · exact ⟨f1, good_of_word (List.mem_filter.mp f1).2⟩
  · exact goodG q6 w hw
theorem runS (C : Cx p s m args meth c k g Ls xs D cA) (hM : Met l (mName j) (wsM j) (rmD d mc ms) Pc Qc mc ms free) (hv : (sT.any (fun r => Nat.beq r.2.2.1 (mOwn k) && Nat.beq r.2.2.2.1 idx && Nat.beq r.2.2.2.2 j) || snT.any (fun r => Nat.beq r.2.2.1 (mOwn k) && Nat.beq r.2.2.2.1 idx && Nat.beq r.2.2.2.2 j)) = true) (hfr : d + 2 ≤ R.frames) (hlo : 60 * (d + 2) ≤ R.locals) (hbl : FrameBlind Pc) (hPc : ∀ U : State, U.heap = H → s.WarmedH U.vm → Pc As.toArray U) (hn : As.length = mArg j) (hsz : ls.size = mMax k) (hcat : (rest.map fun v => v.category).sum ≤ 8) (hdg : decode (mCode k) pc = .ok (.invokestatic idx, 3)) (hf : cells + mc ≤ R.cells ∧ slots + ms ≤ R.slots) :
    va_Run p l e R s m args below meth c H locs cells slots mc ms (F0 m pc ls (As.reverse ++ rest)) rest (Qc As.toArray) free := by
  obtain ⟨hx, hb, hml, hown, hts, hnm, hret, hlk, hW⟩ := C
  rcases Bool.or_eq_true _ _ |>.mp hv with hv | hv
  · obtain ⟨r, hr, hv⟩ := List.any_eq_true.mp hv
    simp only [Bool.and_eq_true] at hv
    obtain ⟨⟨h1, h2⟩, h3⟩ := hv
    have e1 := beqE h1
    have e2 := beqE h2
    have e3 := beqE h3
    have hf2 := List.all_eq_true.mp sT_ok r hr
    simp only [sChk, Bool.and_eq_true, decide_eq_true_eq] at hf2
    rw [e1, e2, e3] at hf2
    obtain ⟨⟨q1, q2⟩, q3⟩ := hf2
    obtain ⟨f1, f2, f3, f4⟩ := mFacts q3
    have hmx := mMax_le j (by omega)
    exact va_runS (Ts := tblG) (own := rcl (mOwn k)) ⟨hx, hb, hml, hown, hts⟩ hM ⟨callB_of (mArg j) hts (goodG q3) rfl rfl rfl (hts _ f1) (hts _ (tAt_in q1)) f3 ⟨by show d + 1 + 1 ≤ R.frames; omega, by show 8 + (mMax j + 11) + 60 * (d + 1) ≤ R.locals; omega⟩, hts _ (tAt_in q2)⟩ ⟨hbl, hPc⟩ rfl hn hsz rfl (lv_room hcat) hdg hf
  · obtain ⟨r, hr, hv⟩ := List.any_eq_true.mp hv
    simp only [Bool.and_eq_true] at hv
    obtain ⟨⟨h1, h2⟩, h3⟩ := hv
    have e1 := beqE h1
    have e2 := beqE h2
    have e3 := beqE h3
    have hf2 := List.all_eq_true.mp snT_ok r hr
    simp only [snChk, Bool.and_eq_true, decide_eq_true_eq] at hf2
    rw [e1, e2, e3] at hf2
    obtain ⟨⟨q1, q2⟩, q3⟩ := hf2
    obtain ⟨f1, f2, f3, f4⟩ := mFacts q3
    have hmx := mMax_le j (by omega)
    have hnest := hW.2.1 r (List.mem_append_left _ hr)
    rw [e1, e2, e3] at hnest
    exact va_runSN (Ts := tblG) (own := rcl (mOwn k)) ⟨hx, hb, hml, hown, hts⟩ hM ⟨va_cnB (mArg j) hts (goodG q3) rfl rfl rfl hnest (hts _ f1) f3 ⟨by show d + 1 + 1 ≤ R.frames; omega, by show 8 + (mMax j + 11) + 60 * (d + 1) ≤ R.locals; omega⟩, hts _ (tAt_in q2), trivial⟩ ⟨hbl, hPc⟩ rfl hn hsz rfl (lv_room hcat) hdg hf
theorem runI (C : Cx p s m args meth c k g Ls xs D cA) (hM : Met l (mName j) (wsM j) (rmD d mc ms) Pc Qc mc ms free) (hv : (cT.any (fun r => Nat.beq r.2.2.1 (mOwn k) && Nat.beq r.2.2.2.1 idx && Nat.beq r.2.2.2.2 j) || cnT.any (fun r => Nat.beq r.2.2.1 (mOwn k) && Nat.beq r.2.2.2.1 idx && Nat.beq r.2.2.2.2 j)) = true) (hfr : d + 2 ≤ R.frames) (hlo : 60 * (d + 2) ≤ R.locals) (hbl : FrameBlind Pc) (hPc : ∀ U : State, U.heap = H → s.WarmedH U.vm → Pc (Value.ref a :: As).toArray U) (hn : As.length = mArg j) (hsz : ls.size = mMax k) (hcat : (rest.map fun v => v.category).sum ≤ 8) (hdg : decode (mCode k) pc = .ok (.invokespecial idx, 3)) (hf : cells + mc ≤ R.cells ∧ slots + ms ≤ R.slots) :
    va_Run p l e R s m args below meth c H locs cells slots mc ms (F0 m pc ls (As.reverse ++ .ref a :: rest)) rest (Qc (Value.ref a :: As).toArray) free := by
  obtain ⟨hx, hb, hml, hown, hts, hnm, hret, hlk, hW⟩ := C
  rcases Bool.or_eq_true _ _ |>.mp hv with hv | hv
  · obtain ⟨r, hr, hv⟩ := List.any_eq_true.mp hv
    simp only [Bool.and_eq_true] at hv
    obtain ⟨⟨h1, h2⟩, h3⟩ := hv
    have e1 := beqE h1
    have e2 := beqE h2
    have e3 := beqE h3
    have hf2 := List.all_eq_true.mp cT_ok r hr
    simp only [cChk, Bool.and_eq_true, decide_eq_true_eq] at hf2
    rw [e1, e2, e3] at hf2
    obtain ⟨⟨⟨⟨q1, q2⟩, q3⟩, q4⟩, q5⟩ := hf2
    obtain ⟨f1, f2, f3, f4⟩ := mFacts q3
    have hmx := mMax_le j (by omega)
    have hcode : wsM j = Jvm.Cond.code (mName j) (mCode j) (mMax j) none :: tblG := by
      rw [← q5]
      rfl
    exact va_runI (Ts := tblG) (own := rcl (mOwn k)) ⟨hx, hb, hml, hown, hts⟩ hM ⟨callB_of (mArg j) hts (goodG q3) hcode rfl rfl (hts _ f1) (hts _ (tAt_in q1)) f3 ⟨by show d + 1 + 1 ≤ R.frames; omega, by show 8 + (mMax j + 11) + 60 * (d + 1) ≤ R.locals; omega⟩, q4, hts _ (tAt_in q2)⟩ ⟨hbl, hPc⟩ rfl hn hsz rfl (lv_room hcat) hdg hf
  · obtain ⟨r, hr, hv⟩ := List.any_eq_true.mp hv
    simp only [Bool.and_eq_true] at hv
    obtain ⟨⟨h1, h2⟩, h3⟩ := hv
    have e1 := beqE h1
    have e2 := beqE h2
    have e3 := beqE h3
    have hf2 := List.all_eq_true.mp cnT_ok r hr
    simp only [cnChk, Bool.and_eq_true, decide_eq_true_eq] at hf2
    rw [e1, e2, e3] at hf2
    obtain ⟨⟨⟨⟨q1, q2⟩, q3⟩, q4⟩, q5⟩ := hf2
    obtain ⟨f1, f2, f3, f4⟩ := mFacts q3
    have hmx := mMax_le j (by omega)
    have hcode : wsM j = Jvm.Cond.code (mName j) (mCode j) (mMax j) none :: tblG := by
      rw [← q5]
      rfl
    have hnest := hW.2.1 r (List.mem_append_right _ hr)
    rw [e1, e2, e3] at hnest
    exact va_runIN (Ts := tblG) (own := rcl (mOwn k)) ⟨hx, hb, hml, hown, hts⟩ hM ⟨va_cnB (mArg j) hts (goodG q3) hcode rfl rfl hnest (hts _ f1) f3 ⟨by show d + 1 + 1 ≤ R.frames; omega, by show 8 + (mMax j + 11) + 60 * (d + 1) ≤ R.locals; omega⟩, q4, hts _ (tAt_in q2)⟩ ⟨hbl, hPc⟩ rfl hn hsz rfl (lv_room hcat) hdg hf
theorem newW (C : Cx p s m args meth c k g Ls xs D cA) (hR : Rel g Ls xs D cA s.heap h H locs) (hn : nT.any (fun r => Nat.beq r.2.2.1 (mOwn k) && Nat.beq r.2.2.2.1 idx && Nat.beq r.2.2.2.2 ci) = true) (hdg : decode (mCode k) pc = .ok (.new idx, 3)) (hc : cells + 1 ≤ R.cells) (hs : slots + nF ci ≤ R.slots)
    (kk : ∀ H1 : Heap, Rel g Ls xs D cA s.heap (newO h ci (nF ci)) H1 locs → W p l e R s m args below meth c H1 locs (cells + 1) (slots + nF ci) Q (F0 m (pc + 3) ls (.ref (adr g (AN h)) :: rest))) : W p l e R s m args below meth c H locs cells slots Q (F0 m pc ls rest) := by
  obtain ⟨hx, hb, hml, hown, hts, hnm, hret, hlk, hW⟩ := C
  obtain ⟨r, hr, hv⟩ := List.any_eq_true.mp hn
  simp only [Bool.and_eq_true] at hv
  obtain ⟨⟨h1, h2⟩, h3⟩ := hv
  have e1 := beqE h1
  have e2 := beqE h2
  have e3 := beqE h3
  have hf2 := List.all_eq_true.mp nT_ok r hr
  simp only [nChk, Bool.and_eq_true, decide_eq_true_eq] at hf2
  rw [e1, e2, e3] at hf2
  obtain ⟨⟨⟨q1, q2⟩, q3⟩, q4⟩ := hf2
  obtain ⟨c1, c2, c3, c4⟩ := clsP _ q4
  have hKn := hW.1.1 _ _ c1
  have ea : adr g (AN h) = H.size := by rw [adr_big g hR.1, hR.2.2.2.1]
  refine W.newcK hx hb hown (hts _ (tAt_in q1)) (hts _ (tAt_in q2)) (hts _ (tAt_in q3)) rfl hdg hc hs hKn.2.1 rfl fun H1 kC hkC e1 z1 o1 => ?_
  rw [← ea]
  refine kk H1 (hR.push hW.2.2.2.2.2.2.2.2.2.2 ?_ z1 o1)
  have ek : AK (newO h ci (nF ci)) (AN h) = (ci, nF ci) := if_pos rfl
  rw [ce_obj (by rw [ek]; exact q4)]
  refine ⟨_, by rw [ek]; exact c1, ?_⟩
  rw [ek]
  refine (u_born (tyT ci) hts c2 hKn hkC e1 c3).to (fun j hj => ?_)
  unfold vp_V
  rw [List.getD_eq_getElem?_getD, fvs_at (by rw [ek]; exact hj), ek]
  have eI : AI (newO h ci (nF ci)) (AN h) j = 0 := congrFun (show AI (newO h ci (nF ci)) (AN h) = fun _ => 0 from if_pos rfl) j
  have eL : AL (newO h ci (nF ci)) (AN h) j = 0 := congrFun (show AL (newO h ci (nF ci)) (AN h) = fun _ => 0 from if_pos rfl) j
  have eR : AR (newO h ci (nF ci)) (AN h) j = none := congrFun (show AR (newO h ci (nF ci)) (AN h) = fun _ => none from if_pos rfl) j
  have hok := okTy_all ci q4 j hj
  show defaultValue (tyT ci j) = rv g (rdf (ftg ci j) (newO h ci (nF ci)) (AN h) j)
  unfold rdf ftg
  rw [eI, eL, eR]
  cases ht : tyT ci j <;> rw [ht] at hok <;> first | (cases hok; done) | rfl
theorem fcA {t : Nat} {ty : FieldType} (hW : WF g Ls xs D cA s) (ht : (tyl cA)[t]? = some (cA t, ty)) (hp : ∀ C, ty ≠ .object C) {cA' : ClassId} (h2 : s.vm.findClass ("[" ++ ty.toString) = some cA') : cA' = cA t := by
  have h1 := (hW.1.2 t _ ht).2
  unfold va_RA at h1
  cases ty <;> first | exact absurd rfl (hp _) | exact Option.some.inj (h2.symm.trans h1)
theorem newaW {x : Int32} {at' : ArrayType} {t kd : Nat} {ty : FieldType} (C : Cx p s m args meth c k g Ls xs D cA) (hR : Rel g Ls xs D cA s.heap h H locs) (hty : newarray.typeOf at' = ty) (ht : (tyl cA)[t]? = some (cA t, ty)) (hp : ∀ C, ty ≠ .object C) (hw : (Jvm.Cond.arrayClass ty) ∈ tblG)
    (hce : ∀ n, ce g cA (newO h kd n) (AN h) = .inl (cA t, n, if kd = 21 then .inr (.inl (fun _ => 0)) else .inl (fun _ => 0))) (hdf : defaultValue ty = if kd = 21 then .long 0 else .int 0) (hcb : componentBytes ty ≤ 8) (h0 : ¬ x < 0) (hle : x.toNatClampNeg ≤ 1000000) (hdg : decode (mCode k) pc = .ok (.newarray at', 2)) (hc : cells + 1 ≤ R.cells) (hs : slots + x.toNatClampNeg ≤ R.slots)
    (kk : ∀ H1 : Heap, Rel g Ls xs D cA s.heap (newO h kd x.toNatClampNeg) H1 locs → W p l e R s m args below meth c H1 locs (cells + 1) (slots + x.toNatClampNeg) Q (F0 m (pc + 2) ls (.ref (adr g (AN h)) :: rest))) : W p l e R s m args below meth c H locs cells slots Q (F0 m pc ls (.int x :: rest)) := by
  obtain ⟨hx, hb, hml, hown, hts, hnm, hret, hlk, hW⟩ := C
  have ea : adr g (AN h) = H.size := by rw [adr_big g hR.1, hR.2.2.2.1]
  subst hty
  have hbytes : x.toNatClampNeg * componentBytes (newarray.typeOf at') ≤ 536870912 := Nat.le_trans (Nat.mul_le_mul hle hcb) (by decide)
  refine va_newaK hx hb (hts _ hw) rfl hdg rfl h0 rfl hbytes hc hs rfl fun H1 cA' e1 z1 o1 hA hfc => ?_
  have e2 := fcA hW ht hp hfc
  subst e2
  rw [← ea]
  refine kk H1 (hR.push hW.2.2.2.2.2.2.2.2.2.2 ?_ z1 o1)
  rw [hce]
  show H1[H.size]? = some (vp_cell _ _)
  rw [e1, hdf]
  by_cases h21 : kd = 21
  · rw [if_pos h21, if_pos h21, vp_cell_l]
  · rw [if_neg h21, if_neg h21, vp_cell_i]
theorem newqW {x : Int32} (C : Cx p s m args meth c k g Ls xs D cA) (hR : Rel g Ls xs D cA s.heap h H locs) (hk : mOwn k = 11) (h0 : ¬ x < 0) (hle : x.toNatClampNeg ≤ 1000000) (hdg : decode (mCode k) pc = .ok (.anewarray 61, 3)) (hc : cells + 1 ≤ R.cells) (hs : slots + x.toNatClampNeg ≤ R.slots)
    (kk : ∀ H1 : Heap, Rel g Ls xs D cA s.heap (newO h 24 x.toNatClampNeg) H1 locs → W p l e R s m args below meth c H1 locs (cells + 1) (slots + x.toNatClampNeg) Q (F0 m (pc + 3) ls (.ref (adr g (AN h)) :: rest))) : W p l e R s m args below meth c H locs cells slots Q (F0 m pc ls (.int x :: rest)) := by
  obtain ⟨hx, hb, hml, hown, hts, hnm, hret, hlk, hW⟩ := C
  have ea : adr g (AN h) = H.size := by rw [adr_big g hR.1, hR.2.2.2.1]
  rw [hk] at hown
  refine W.anew hx hb (own := rcl 11) (C := "CutsOrFast$Player") hown (hts _ (tAt_in anw_ok)) (va_AO.use hW.2.2.2.2.1) rfl hdg rfl h0 (Nat.le_trans (Nat.mul_le_mul_right 4 hle) (by decide)) hc hs fun cA' kA comp f1 f2 f3 f4 => ?_
  obtain ⟨kA', comp', -, -, -, k4⟩ := (hW.1.2 4 _ rfl).2
  have e2 : cA' = cA 4 := Option.some.inj (f1.symm.trans k4)
  subst e2
  generalize hH1 : H.push ({ cls := cA 4, slots := Array.replicate x.toNatClampNeg .null, vm := .none } : Cell) = H1
  have z1 : H1.size = H.size + 1 := by rw [← hH1, Array.size_push]
  have e1 : H1[H.size]? = some (arrV (cA 4) x.toNatClampNeg (fun _ => .null)) := by rw [← hH1, Array.getElem?_push_size, ← arrV_new]
  have o1 : ∀ q : Nat, q < H.size → H1[q]? = H[q]? := fun q hq => by rw [← hH1, Array.getElem?_push, if_neg (Nat.ne_of_lt hq)]
  rw [← ea]
  refine kk H1 (hR.push hW.2.2.2.2.2.2.2.2.2.2 ?_ z1 o1)
  have ek : AK (newO h 24 x.toNatClampNeg) (AN h) = (24, x.toNatClampNeg) := if_pos rfl
  have eR : AR (newO h 24 x.toNatClampNeg) (AN h) = fun _ => none := if_pos rfl
  rw [ce_ref (by rw [ek]), ek, eR]
  show H1[H.size]? = some (vp_cell _ _)
  rw [e1, vp_cell_q]
  rfl
end RUNS
end
section
/-! one step -/
theorem nx_inv {q : Nat} {L S : List Value} {h : AH} {pc' : Nat} {L' S' : List Value} {h' : AH} (e : nx q L S h = some (.inl (pc', L', S', h'))) : pc' = q ∧ L' = L ∧ S' = S ∧ h' = h := by
  unfold nx at e
  injection e with e
  injection e with e
  injection e with e1 e
  injection e with e2 e
  injection e with e3 e4
  exact ⟨e1.symm, e2.symm, e3.symm, e4.symm⟩
theorem bin_inv {S : List Value} {q : Nat} {L : List Value} {h : AH} {f : Int32 → Int32 → Int32} {pc' : Nat} {L' S' : List Value} {h' : AH} (e : bin S q L h f = some (.inl (pc', L', S', h'))) : ∃ x y S1, S = .int y :: .int x :: S1 ∧ pc' = q ∧ L' = L ∧ S' = .int (f x y) :: S1 ∧ h' = h := by
  unfold bin at e
  split at e
  · exact ⟨_, _, _, rfl, nx_inv e⟩
  · cases e
theorem binL_inv {S : List Value} {q : Nat} {L : List Value} {h : AH} {f : Int64 → Int64 → Int64} {pc' : Nat} {L' S' : List Value} {h' : AH} (e : binL S q L h f = some (.inl (pc', L', S', h'))) : ∃ x y S1, S = .long y :: .long x :: S1 ∧ pc' = q ∧ L' = L ∧ S' = .long (f x y) :: S1 ∧ h' = h := by
  unfold binL at e
  split at e
  · exact ⟨_, _, _, rfl, nx_inv e⟩
  · cases e
theorem shL_inv {S : List Value} {q : Nat} {L : List Value} {h : AH} {f : Int64 → Int32 → Int64} {pc' : Nat} {L' S' : List Value} {h' : AH} (e : shL S q L h f = some (.inl (pc', L', S', h'))) : ∃ x y S1, S = .int y :: .long x :: S1 ∧ pc' = q ∧ L' = L ∧ S' = .long (f x y) :: S1 ∧ h' = h := by
  unfold shL at e
  split at e
  · exact ⟨_, _, _, rfl, nx_inv e⟩
  · cases e
theorem un1_inv {S : List Value} {q : Nat} {L : List Value} {h : AH} {f : Int32 → Value} {pc' : Nat} {L' S' : List Value} {h' : AH} (e : un1 S q L h f = some (.inl (pc', L', S', h'))) : ∃ x S1, S = .int x :: S1 ∧ pc' = q ∧ L' = L ∧ S' = f x :: S1 ∧ h' = h := by
  unfold un1 at e
  split at e
  · exact ⟨_, _, rfl, nx_inv e⟩
  · cases e
theorem brI_inv {S : List Value} {L : List Value} {h : AH} {f : Int32 → Nat} {pc' : Nat} {L' S' : List Value} {h' : AH} (e : brI S L h f = some (.inl (pc', L', S', h'))) : ∃ x S1, S = .int x :: S1 ∧ pc' = f x ∧ L' = L ∧ S' = S1 ∧ h' = h := by
  unfold brI at e
  split at e
  · exact ⟨_, _, rfl, nx_inv e⟩
  · cases e
theorem brII_inv {S : List Value} {L : List Value} {h : AH} {f : Int32 → Int32 → Nat} {pc' : Nat} {L' S' : List Value} {h' : AH} (e : brII S L h f = some (.inl (pc', L', S', h'))) : ∃ x y S1, S = .int y :: .int x :: S1 ∧ pc' = f x y ∧ L' = L ∧ S' = S1 ∧ h' = h := by
  unfold brII at e
  split at e
  · exact ⟨_, _, _, rfl, nx_inv e⟩
  · cases e
theorem mmx_inv {S : List Value} {q : Nat} {L : List Value} {h : AH} {f : Int32 → Int32 → Int32} {pc' : Nat} {L' S' : List Value} {h' : AH} (e : mmx S q L h f = some (.inl (pc', L', S', h'))) : ∃ x y S1, S = .int y :: .int x :: S1 ∧ pc' = q ∧ L' = L ∧ S' = .int (f x y) :: S1 ∧ h' = h ∧ catOK S1 = true := by
  unfold mmx at e
  split at e
  · split at e
    · obtain ⟨a, b, c, d⟩ := nx_inv e
      exact ⟨_, _, _, rfl, a, b, c, d, ‹_›⟩
    · cases e
  · cases e
theorem cal_no {j : Nat} {a r : List Value} {q : St} (e : cal j a r = some (.inl q)) : False := by
  unfold cal at e
  split at e <;> cases e
theorem retI_no {k : Nat} {S : List Value} {q : St} (e : retI k S = some (.inl q)) : False := by
  unfold retI at e
  split at e
  · split at e
    · cases e
    · split at e <;> cases e
    · cases e
  · cases e
theorem catOK_le {l : List Value} (h : catOK l = true) : (l.map fun v => v.category).sum ≤ 8 := Nat.le_of_ble_eq_true h
theorem any_ld {own idx : Nat} {v : Int32} (h : ldT.any (fun q => Nat.beq q.2.1 own && Nat.beq q.2.2.1 idx && decide (q.2.2.2 = v)) = true) : (Jvm.Cond.constant (rcl own) idx v) ∈ tblG := by
  obtain ⟨q, hq, h⟩ := List.any_eq_true.mp h
  simp only [Bool.and_eq_true, decide_eq_true_eq] at h
  obtain ⟨⟨h1, h2⟩, h3⟩ := h
  have hf := List.all_eq_true.mp ldT_ok q hq
  unfold ldChk at hf
  rw [beqE h1, beqE h2, h3] at hf
  exact tAt_in hf
theorem any_ld2 {own idx : Nat} {v : Int64} (h : ldT2.any (fun q => Nat.beq q.2.1 own && Nat.beq q.2.2.1 idx && decide (q.2.2.2 = v)) = true) : (Jvm.Cond.constantLong (rcl own) idx v) ∈ tblG := by
  obtain ⟨q, hq, h⟩ := List.any_eq_true.mp h
  simp only [Bool.and_eq_true, decide_eq_true_eq] at h
  obtain ⟨⟨h1, h2⟩, h3⟩ := h
  have hf := List.all_eq_true.mp ldT2_ok q hq
  unfold ldChk2 at hf
  rw [beqE h1, beqE h2, h3] at hf
  exact tAt_in hf
theorem tsw_spec (x : Int32) (T : Nat → Nat) (d lo : Nat) : ∀ (n a : Nat), lo + a + n < 2147483648 → tsw x ((List.range n).map (fun t => (lo + a + t, T (a + t)))) d = if (lo + a : Int) ≤ x.toInt ∧ x.toInt < (lo + a + n : Int) then T (x.toInt - lo).toNat else d
  | 0, a, _ => by
    rw [if_neg (by omega)]
    rfl
  | n + 1, a, h => by
    rw [List.range_succ_eq_map, List.map_cons, List.map_map]
    have e : (fun t => (lo + a + t, T (a + t))) ∘ Nat.succ = fun t => (lo + (a + 1) + t, T (a + 1 + t)) := by
      funext t
      simp only [Function.comp, Nat.succ_eq_add_one]
      rw [show lo + a + (t + 1) = lo + (a + 1) + t by omega, show a + (t + 1) = a + 1 + t by omega]
    rw [e]
    unfold tsw
    rw [tsw_spec x T d lo n (a + 1) (by omega)]
    have hv : (Int32.ofNat (lo + a + 0)).toInt = (lo + a : Int) := by
      have e9 := nI_toInt (n := lo + a + 0) (by omega)
      show (nI (lo + a + 0)).toInt = _
      rw [e9]
      omega
    by_cases hx : x = Int32.ofNat (lo + a + 0)
    · rw [if_pos hx]
      have : x.toInt = (lo + a : Int) := by rw [hx, hv]
      rw [if_pos ⟨by omega, by omega⟩, show (x.toInt - (lo : Int)).toNat = a + 0 by omega]
    · rw [if_neg hx]
      have hne : x.toInt ≠ (lo + a : Int) := fun z => hx (Int32.toInt_inj.mp (by rw [hv]; exact z))
      by_cases h1 : ((lo : Int) + ((a + 1 : Nat) : Int)) ≤ x.toInt ∧ x.toInt < (lo + ((a + 1 : Nat) : Int) + n : Int)
      · rw [if_pos h1, if_pos ⟨by omega, by omega⟩]
      · rw [if_neg h1, if_neg (by omega)]
theorem up1_at {α : Type} (f : Nat → α) (n : Nat) (x : α) : up1 f n x n = x := if_pos rfl
theorem in_boolean : (Jvm.Cond.arrayClass .boolean) ∈ tblG := tAt_in arr_boolean
theorem in_byte : (Jvm.Cond.arrayClass .byte) ∈ tblG := tAt_in arr_byte
theorem in_int : (Jvm.Cond.arrayClass .int) ∈ tblG := tAt_in arr_int
theorem in_long : (Jvm.Cond.arrayClass .long) ∈ tblG := tAt_in arr_long
section STEP
variable {p : Program} {l : Launch} {e : Env} {R : Room} {s : State} {m : MethodId} {args : Array Value} {below : List Frame} {meth : Method} {c : Code} {H : Heap} {locs : List Loc} {cells slots : Nat} {Q : State → Prop} {pc : Nat} {ls : Array Slot} {rest : List Value}
variable {g : Nat × Nat × Nat} {Ls : Nat} {xs : Nat → Int32} {D : va_G} {cA : Nat → ClassId} {h : AH} {k i : Nat}
set_option maxHeartbeats 8000000 in
theorem stepW {op : OpE} {L S : List Value} {pc' : Nat} {L' S' : List Value} {h' : AH} (C : Cx p s m args meth c k g Ls xs D cA) (hk : k < 203) (hop : opAt k pc = some op) (ha : act k pc op L S h = some (.inl (pc', L', S', h'))) (hR : Rel g Ls xs D cA s.heap h H locs) (hl : LH g ls (mMax k) L) (hfr : 1 ≤ R.frames) (hlo : 60 ≤ R.locals) (hc : cells + (AN h' - AN h) ≤ R.cells) (hs : slots + (AT h' - AT h) ≤ R.slots)
    (kk : ∀ (H1 : Heap) (locs1 : List Loc) (ls1 : Array Slot), Rel g Ls xs D cA s.heap h' H1 locs1 → LH g ls1 (mMax k) L' → W p l e R s m args below meth c H1 locs1 (cells + (AN h' - AN h)) (slots + (AT h' - AT h)) Q (F0 m pc' ls1 (S'.map (rv g)))) : W p l e R s m args below meth c H locs cells slots Q (F0 m pc ls (S.map (rv g))) := by
  obtain ⟨hd, hck⟩ := op_ok hk hop
  obtain ⟨len, ins, vi, vl, b, c2, lst⟩ := op
  obtain ⟨hx, hb, hml, hown, hts, hnm, hret, hlk, hW⟩ := id C
  have K1 : ∀ {pc2 : Nat} {S2 : List Value}, pc' = pc2 → L' = L → S' = S2 → h' = h → W p l e R s m args below meth c H locs cells slots Q (F0 m pc2 ls (S2.map (rv g))) := by
    rintro _ _ rfl rfl rfl rfl
    have := kk H locs ls hR hl
    simpa only [Nat.sub_self, Nat.add_zero] using this
  have K2 : ∀ {pc2 : Nat} {S2 L2 : List Value} (ls1 : Array Slot), pc' = pc2 → L' = L2 → S' = S2 → h' = h → LH g ls1 (mMax k) L2 → W p l e R s m args below meth c H locs cells slots Q (F0 m pc2 ls1 (S2.map (rv g))) := by
    rintro _ _ _ ls1 rfl rfl rfl rfl hl1
    have := kk H locs ls1 hR hl1
    simpa only [Nat.sub_self, Nat.add_zero] using this
  have K3 : ∀ {pc2 : Nat} {S2 : List Value} (H1 : Heap) (locs1 : List Loc), pc' = pc2 → L' = L → S' = S2 → AN h' = AN h → AT h' = AT h → Rel g Ls xs D cA s.heap h' H1 locs1 → W p l e R s m args below meth c H1 locs1 cells slots Q (F0 m pc2 ls (S2.map (rv g))) := by
    rintro _ _ H1 locs1 rfl rfl rfl e1 e2 hR1
    have := kk H1 locs1 ls hR1 hl
    simpa only [e1, e2, Nat.sub_self, Nat.add_zero] using this
  have K4 : ∀ {pc2 : Nat} {S2 : List Value} {n : Nat} {kd : Nat} (H1 : Heap) (locs1 : List Loc), pc' = pc2 → L' = L → S' = S2 → h' = newO h kd n → Rel g Ls xs D cA s.heap (newO h kd n) H1 locs1 → W p l e R s m args below meth c H1 locs1 (cells + 1) (slots + n) Q (F0 m pc2 ls (S2.map (rv g))) := by
    rintro _ _ n kd H1 locs1 rfl rfl rfl rfl hR1
    have := kk H1 locs1 ls hR1 hl
    have e1 : AN (newO h kd n) - AN h = 1 := by
      show AN h + 1 - AN h = 1
      omega
    have e2 : AT (newO h kd n) - AT h = n := by
      show AT h + n - AT h = n
      omega
    rw [e1, e2] at this
    exact this
  have N4 : ∀ {n kd : Nat}, h' = newO h kd n → cells + 1 ≤ R.cells ∧ slots + n ≤ R.slots := by
    rintro n kd rfl
    have e1 : AN (newO h kd n) - AN h = 1 := by
      show AN h + 1 - AN h = 1
      omega
    have e2 : AT (newO h kd n) - AT h = n := by
      show AT h + n - AT h = n
      omega
    rw [e1] at hc
    rw [e2] at hs
    exact ⟨hc, hs⟩
  unfold chk at hck
  unfold act at ha
  cases ins
  case bipush n =>
    dsimp only at ha hck hd
    rw [Bool.and_eq_true, decide_eq_true_eq] at hck
    have hlen := beqE hck.2
    subst hlen
    obtain ⟨e1, e2, e3, e4⟩ := nx_inv ha
    exact lv_bipush hx hb hd hck.1 (K1 e1 e2 e3 e4)
  case sipush n =>
    dsimp only at ha hck hd
    rw [Bool.and_eq_true, decide_eq_true_eq] at hck
    have hlen := beqE hck.2
    subst hlen
    obtain ⟨e1, e2, e3, e4⟩ := nx_inv ha
    exact lv_sipush hx hb hd hck.1 (K1 e1 e2 e3 e4)
  case iconst n =>
    dsimp only at ha hck hd
    rw [Bool.and_eq_true, decide_eq_true_eq] at hck
    have hlen := beqE hck.2
    subst hlen
    obtain ⟨e1, e2, e3, e4⟩ := nx_inv ha
    exact lv_iconst hx hb hd hck.1 (K1 e1 e2 e3 e4)
  case lconst n =>
    dsimp only at ha hck hd
    rw [Bool.and_eq_true, decide_eq_true_eq] at hck
    have hlen := beqE hck.1
    subst hlen
    obtain ⟨e1, e2, e3, e4⟩ := nx_inv ha
    exact lv_lconst hx hb hd hck.2 (K1 e1 e2 e3 e4)
  case ldc n =>
    dsimp only at ha hck hd
    rw [Bool.and_eq_true] at hck
    have hlen := beqE hck.1
    subst hlen
    obtain ⟨e1, e2, e3, e4⟩ := nx_inv ha
    exact lv_ldc hx hb hown (hts _ (any_ld hck.2)) hd (K1 e1 e2 e3 e4)
  case ldc_w n =>
    dsimp only at ha hck hd
    rw [Bool.and_eq_true] at hck
    have hlen := beqE hck.1
    subst hlen
    obtain ⟨e1, e2, e3, e4⟩ := nx_inv ha
    exact lv_ldcw hx hb hown (hts _ (any_ld hck.2)) hd (K1 e1 e2 e3 e4)
  case ldc2_w n =>
    dsimp only at ha hck hd
    rw [Bool.and_eq_true] at hck
    have hlen := beqE hck.1
    subst hlen
    obtain ⟨e1, e2, e3, e4⟩ := nx_inv ha
    exact lv_ldc2 hx hb hown (hts _ (any_ld2 hck.2)) hd (K1 e1 e2 e3 e4)
  case aconst_null =>
    dsimp only at ha hck hd
    have hlen := beqE hck
    subst hlen
    obtain ⟨e1, e2, e3, e4⟩ := nx_inv ha
    exact lv_null hx hb hd (K1 e1 e2 e3 e4)
  case iload i =>
    dsimp only at ha hck hd
    have hlen := beqE hck
    subst hlen
    unfold loI at ha
    split at ha
    · rename_i x hx2
      obtain ⟨e1, e2, e3, e4⟩ := nx_inv ha
      exact lv_iload hx hb hd (hl.at hx2 (fun q z => by cases z)) (K1 e1 e2 e3 e4)
    · cases ha
  case iload_n i =>
    dsimp only at ha hck hd
    have hlen := beqE hck
    subst hlen
    unfold loI at ha
    split at ha
    · rename_i x hx2
      obtain ⟨e1, e2, e3, e4⟩ := nx_inv ha
      exact lv_iload_n hx hb hd rfl (hl.at hx2 (fun q z => by cases z)) (K1 e1 e2 e3 e4)
    · cases ha
  case lload i =>
    dsimp only at ha hck hd
    have hlen := beqE hck
    subst hlen
    unfold loL at ha
    split at ha
    · rename_i x hx2
      obtain ⟨e1, e2, e3, e4⟩ := nx_inv ha
      exact lv_lload hx hb hd (hl.at hx2 (fun q z => by cases z)) (K1 e1 e2 e3 e4)
    · cases ha
  case lload_n i =>
    dsimp only at ha hck hd
    have hlen := beqE hck
    subst hlen
    unfold loL at ha
    split at ha
    · rename_i x hx2
      obtain ⟨e1, e2, e3, e4⟩ := nx_inv ha
      exact lv_lload_n hx hb hd rfl (hl.at hx2 (fun q z => by cases z)) (K1 e1 e2 e3 e4)
    · cases ha
  case aload i =>
    dsimp only at ha hck hd
    have hlen := beqE hck
    subst hlen
    unfold loA at ha
    split at ha
    · rename_i x hx2
      obtain ⟨e1, e2, e3, e4⟩ := nx_inv ha
      exact lv_aload hx hb hd (hl.at hx2 (fun q z => by cases z)) (K1 e1 e2 e3 e4)
    · rename_i hx2
      obtain ⟨e1, e2, e3, e4⟩ := nx_inv ha
      exact lv_aloadN hx hb hd (hl.at hx2 (fun q z => by cases z)) (K1 e1 e2 e3 e4)
    · cases ha
  case aload_n i =>
    dsimp only at ha hck hd
    have hlen := beqE hck
    subst hlen
    unfold loA at ha
    split at ha
    · rename_i x hx2
      obtain ⟨e1, e2, e3, e4⟩ := nx_inv ha
      exact lv_aload_n hx hb hd rfl (hl.at hx2 (fun q z => by cases z)) (K1 e1 e2 e3 e4)
    · rename_i hx2
      obtain ⟨e1, e2, e3, e4⟩ := nx_inv ha
      exact lv_aload_nN hx hb hd rfl (hl.at hx2 (fun q z => by cases z)) (K1 e1 e2 e3 e4)
    · cases ha
  case istore i =>
    dsimp only at ha hck hd
    have hlen := beqE hck
    subst hlen
    unfold soI at ha
    split at ha
    · split at ha
      · rename_i hlt
        have hlt2 := Nat.le_of_ble_eq_true hlt
        obtain ⟨e1, e2, e3, e4⟩ := nx_inv ha
        exact lv_istore hx hb hd hl.has (by rw [← hl.2.2.1]; exact hlt2) rfl (fun ls1 h1 => K2 ls1 e1 e2 e3 e4 (hl.put1 h1))
      · cases ha
    · cases ha
  case istore_n i =>
    dsimp only at ha hck hd
    have hlen := beqE hck
    subst hlen
    unfold soI at ha
    split at ha
    · split at ha
      · rename_i hlt
        have hlt2 := Nat.le_of_ble_eq_true hlt
        obtain ⟨e1, e2, e3, e4⟩ := nx_inv ha
        exact lv_istore_n hx hb hd rfl hl.has (by rw [← hl.2.2.1]; exact hlt2) rfl (fun ls1 h1 => K2 ls1 e1 e2 e3 e4 (hl.put1 h1))
      · cases ha
    · cases ha
  case lstore i =>
    dsimp only at ha hck hd
    have hlen := beqE hck
    subst hlen
    unfold soL at ha
    split at ha
    · split at ha
      · rename_i hlt
        have hlt2 := Nat.le_of_ble_eq_true hlt
        obtain ⟨e1, e2, e3, e4⟩ := nx_inv ha
        exact lv_lstore hx hb hd hl.has (by rw [← hl.2.2.1]; exact hlt2) rfl (fun ls1 h1 => K2 ls1 e1 e2 e3 e4 (hl.put2 h1))
      · cases ha
    · cases ha
  case lstore_n i =>
    dsimp only at ha hck hd
    have hlen := beqE hck
    subst hlen
    unfold soL at ha
    split at ha
    · split at ha
      · rename_i hlt
        have hlt2 := Nat.le_of_ble_eq_true hlt
        obtain ⟨e1, e2, e3, e4⟩ := nx_inv ha
        exact lv_lstore_n hx hb hd rfl hl.has (by rw [← hl.2.2.1]; exact hlt2) rfl (fun ls1 h1 => K2 ls1 e1 e2 e3 e4 (hl.put2 h1))
      · cases ha
    · cases ha
  case astore i =>
    dsimp only at ha hck hd
    have hlen := beqE hck
    subst hlen
    unfold soA at ha
    split at ha
    · split at ha
      · rename_i hlt
        have hlt2 := Nat.le_of_ble_eq_true hlt
        obtain ⟨e1, e2, e3, e4⟩ := nx_inv ha
        exact lv_astore hx hb hd hl.has (by rw [← hl.2.2.1]; exact hlt2) rfl (fun ls1 h1 => K2 ls1 e1 e2 e3 e4 (hl.put1 h1))
      · cases ha
    · split at ha
      · rename_i hlt
        have hlt2 := Nat.le_of_ble_eq_true hlt
        obtain ⟨e1, e2, e3, e4⟩ := nx_inv ha
        exact lv_astoreN hx hb hd hl.has (by rw [← hl.2.2.1]; exact hlt2) rfl (fun ls1 h1 => K2 ls1 e1 e2 e3 e4 (hl.put1 h1))
      · cases ha
    · cases ha
  case astore_n i =>
    dsimp only at ha hck hd
    have hlen := beqE hck
    subst hlen
    unfold soA at ha
    split at ha
    · split at ha
      · rename_i hlt
        have hlt2 := Nat.le_of_ble_eq_true hlt
        obtain ⟨e1, e2, e3, e4⟩ := nx_inv ha
        exact lv_astore_n hx hb hd rfl hl.has (by rw [← hl.2.2.1]; exact hlt2) rfl (fun ls1 h1 => K2 ls1 e1 e2 e3 e4 (hl.put1 h1))
      · cases ha
    · split at ha
      · rename_i hlt
        have hlt2 := Nat.le_of_ble_eq_true hlt
        obtain ⟨e1, e2, e3, e4⟩ := nx_inv ha
        exact lv_astore_nN hx hb hd rfl hl.has (by rw [← hl.2.2.1]; exact hlt2) rfl (fun ls1 h1 => K2 ls1 e1 e2 e3 e4 (hl.put1 h1))
      · cases ha
    · cases ha
  case iinc i n =>
    dsimp only at ha hck hd
    simp only [Bool.and_eq_true, decide_eq_true_eq] at hck
    have hlen := beqE hck.1.1
    have hi := beqE hck.1.2
    subst hlen hi
    split at ha
    · rename_i x hx2
      obtain ⟨e1, e2, e3, e4⟩ := nx_inv ha
      have hin := asc_in (g := g) hx2 (fun q z => by cases z)
      obtain ⟨kx, hkx⟩ := List.getElem?_of_mem hin
      refine lv_iinc (v := x + vi) hx hb hd hl.has hkx (by rw [hck.2]) (by rw [← hl.2.2.1]; exact (List.getElem?_eq_some_iff.mp hx2).1) rfl (fun ls1 h1 => K2 ls1 e1 e2 e3 e4 (hl.put1 h1))
    · cases ha
  case iadd =>
    dsimp only at ha hck hd
    have hlen := beqE hck
    subst hlen
    obtain ⟨x, y, S1, rfl, e1, e2, e3, e4⟩ := bin_inv ha
    exact lv_iadd hx hb hd (K1 e1 e2 e3 e4)
  case isub =>
    dsimp only at ha hck hd
    have hlen := beqE hck
    subst hlen
    obtain ⟨x, y, S1, rfl, e1, e2, e3, e4⟩ := bin_inv ha
    exact lv_isub hx hb hd (K1 e1 e2 e3 e4)
  case imul =>
    dsimp only at ha hck hd
    have hlen := beqE hck
    subst hlen
    obtain ⟨x, y, S1, rfl, e1, e2, e3, e4⟩ := bin_inv ha
    exact lv_imul hx hb hd (K1 e1 e2 e3 e4)
  case iand =>
    dsimp only at ha hck hd
    have hlen := beqE hck
    subst hlen
    obtain ⟨x, y, S1, rfl, e1, e2, e3, e4⟩ := bin_inv ha
    exact lv_iand hx hb hd (K1 e1 e2 e3 e4)
  case ior =>
    dsimp only at ha hck hd
    have hlen := beqE hck
    subst hlen
    obtain ⟨x, y, S1, rfl, e1, e2, e3, e4⟩ := bin_inv ha
    exact lv_ior hx hb hd (K1 e1 e2 e3 e4)
  case ixor =>
    dsimp only at ha hck hd
    have hlen := beqE hck
    subst hlen
    obtain ⟨x, y, S1, rfl, e1, e2, e3, e4⟩ := bin_inv ha
    exact lv_ixor hx hb hd (K1 e1 e2 e3 e4)
  case ishl =>
    dsimp only at ha hck hd
    have hlen := beqE hck
    subst hlen
    obtain ⟨x, y, S1, rfl, e1, e2, e3, e4⟩ := bin_inv ha
    exact lv_ishl hx hb hd (K1 e1 e2 e3 e4)
  case ishr =>
    dsimp only at ha hck hd
    have hlen := beqE hck
    subst hlen
    obtain ⟨x, y, S1, rfl, e1, e2, e3, e4⟩ := bin_inv ha
    exact lv_ishr hx hb hd (K1 e1 e2 e3 e4)
  case iushr =>
    dsimp only at ha hck hd
    have hlen := beqE hck
    subst hlen
    obtain ⟨x, y, S1, rfl, e1, e2, e3, e4⟩ := bin_inv ha
    exact lv_iushr hx hb hd rfl (K1 e1 e2 e3 e4)
  case ladd =>
    dsimp only at ha hck hd
    have hlen := beqE hck
    subst hlen
    obtain ⟨x, y, S1, rfl, e1, e2, e3, e4⟩ := binL_inv ha
    exact lv_ladd hx hb hd (K1 e1 e2 e3 e4)
  case lmul =>
    dsimp only at ha hck hd
    have hlen := beqE hck
    subst hlen
    obtain ⟨x, y, S1, rfl, e1, e2, e3, e4⟩ := binL_inv ha
    exact lv_lmul hx hb hd (K1 e1 e2 e3 e4)
  case land =>
    dsimp only at ha hck hd
    have hlen := beqE hck
    subst hlen
    obtain ⟨x, y, S1, rfl, e1, e2, e3, e4⟩ := binL_inv ha
    exact lv_land hx hb hd (K1 e1 e2 e3 e4)
  case lor =>
    dsimp only at ha hck hd
    have hlen := beqE hck
    subst hlen
    obtain ⟨x, y, S1, rfl, e1, e2, e3, e4⟩ := binL_inv ha
    exact lv_lor hx hb hd (K1 e1 e2 e3 e4)
  case lshl =>
    dsimp only at ha hck hd
    have hlen := beqE hck
    subst hlen
    obtain ⟨x, y, S1, rfl, e1, e2, e3, e4⟩ := shL_inv ha
    exact lv_lshl hx hb hd rfl (K1 e1 e2 e3 e4)
  case lshr =>
    dsimp only at ha hck hd
    have hlen := beqE hck
    subst hlen
    obtain ⟨x, y, S1, rfl, e1, e2, e3, e4⟩ := shL_inv ha
    exact lv_lshr hx hb hd rfl (K1 e1 e2 e3 e4)
  case lushr =>
    dsimp only at ha hck hd
    have hlen := beqE hck
    subst hlen
    obtain ⟨x, y, S1, rfl, e1, e2, e3, e4⟩ := shL_inv ha
    exact lv_lushr hx hb hd rfl (K1 e1 e2 e3 e4)
  case idiv =>
    dsimp only at ha hck hd
    have hlen := beqE hck
    subst hlen
    split at ha
    · split at ha
      · cases ha
      · rename_i hne
        obtain ⟨e1, e2, e3, e4⟩ := nx_inv ha
        exact lv_idiv hx hb hd hne (K1 e1 e2 e3 e4)
    · cases ha
  case irem =>
    dsimp only at ha hck hd
    have hlen := beqE hck
    subst hlen
    split at ha
    · split at ha
      · cases ha
      · rename_i hne
        obtain ⟨e1, e2, e3, e4⟩ := nx_inv ha
        exact lv_irem hx hb hd hne (K1 e1 e2 e3 e4)
    · cases ha
  case ldiv =>
    dsimp only at ha hck hd
    have hlen := beqE hck
    subst hlen
    split at ha
    · split at ha
      · cases ha
      · rename_i hne
        obtain ⟨e1, e2, e3, e4⟩ := nx_inv ha
        exact lv_ldiv hx hb hd hne (K1 e1 e2 e3 e4)
    · cases ha
  case lrem =>
    dsimp only at ha hck hd
    have hlen := beqE hck
    subst hlen
    split at ha
    · split at ha
      · cases ha
      · rename_i hne
        obtain ⟨e1, e2, e3, e4⟩ := nx_inv ha
        exact lv_lrem hx hb hd hne (K1 e1 e2 e3 e4)
    · cases ha
  case lcmp =>
    dsimp only at ha hck hd
    have hlen := beqE hck
    subst hlen
    split at ha
    · obtain ⟨e1, e2, e3, e4⟩ := nx_inv ha
      exact W.lcmp hx hb hd (K1 e1 e2 e3 e4)
    · cases ha
  case i2l =>
    dsimp only at ha hck hd
    have hlen := beqE hck
    subst hlen
    obtain ⟨x, S1, rfl, e1, e2, e3, e4⟩ := un1_inv ha
    exact lv_i2l hx hb hd rfl (K1 e1 e2 e3 e4)
  case i2b =>
    dsimp only at ha hck hd
    have hlen := beqE hck
    subst hlen
    obtain ⟨x, S1, rfl, e1, e2, e3, e4⟩ := un1_inv ha
    exact lv_i2b hx hb hd rfl (K1 e1 e2 e3 e4)
  case l2i =>
    dsimp only at ha hck hd
    have hlen := beqE hck
    subst hlen
    split at ha
    · obtain ⟨e1, e2, e3, e4⟩ := nx_inv ha
      exact lv_l2i hx hb hd rfl (K1 e1 e2 e3 e4)
    · cases ha
  case dup =>
    dsimp only at ha hck hd
    have hlen := beqE hck
    subst hlen
    split at ha
    · obtain ⟨e1, e2, e3, e4⟩ := nx_inv ha
      exact lv_dup hx hb hd rfl (K1 e1 e2 e3 e4)
    · obtain ⟨e1, e2, e3, e4⟩ := nx_inv ha
      exact lv_dup hx hb hd rfl (K1 e1 e2 e3 e4)
    · cases ha
  case ifCond cn off =>
    dsimp only at hck hd
    rw [Bool.and_eq_true, decide_eq_true_eq] at hck
    have hlen := beqE hck.1
    subst hlen
    cases cn <;> dsimp only at ha
    case eq =>
      obtain ⟨x, S1, rfl, e1, e2, e3, e4⟩ := brI_inv ha
      refine lv_if_eq (tgt := b) hx hb hd hck.2 (fun z => ?_) (fun z => ?_)
      · rw [if_pos z] at e1
        exact K1 e1 e2 e3 e4
      · rw [if_neg z] at e1
        exact K1 e1 e2 e3 e4
    case ne =>
      obtain ⟨x, S1, rfl, e1, e2, e3, e4⟩ := brI_inv ha
      refine lv_if_ne (tgt := b) hx hb hd hck.2 (fun z => ?_) (fun z => ?_)
      · rw [if_neg z] at e1
        exact K1 e1 e2 e3 e4
      · rw [if_pos z] at e1
        exact K1 e1 e2 e3 e4
    case lt =>
      obtain ⟨x, S1, rfl, e1, e2, e3, e4⟩ := brI_inv ha
      refine lv_if_lt (tgt := b) hx hb hd hck.2 (fun z => ?_) (fun z => ?_)
      · rw [if_pos z] at e1
        exact K1 e1 e2 e3 e4
      · rw [if_neg z] at e1
        exact K1 e1 e2 e3 e4
    case ge =>
      obtain ⟨x, S1, rfl, e1, e2, e3, e4⟩ := brI_inv ha
      refine lv_if_ge (tgt := b) hx hb hd hck.2 (fun z => ?_) (fun z => ?_)
      · rw [if_neg (Int32.not_lt.mpr z)] at e1
        exact K1 e1 e2 e3 e4
      · rw [if_pos (Int32.not_le.mp z)] at e1
        exact K1 e1 e2 e3 e4
    case gt =>
      obtain ⟨x, S1, rfl, e1, e2, e3, e4⟩ := brI_inv ha
      refine lv_if_gt (tgt := b) hx hb hd hck.2 (fun z => ?_) (fun z => ?_)
      · rw [if_pos z] at e1
        exact K1 e1 e2 e3 e4
      · rw [if_neg z] at e1
        exact K1 e1 e2 e3 e4
    case le =>
      obtain ⟨x, S1, rfl, e1, e2, e3, e4⟩ := brI_inv ha
      refine lv_if_le (tgt := b) hx hb hd hck.2 (fun z => ?_) (fun z => ?_)
      · rw [if_neg (Int32.not_lt.mpr z)] at e1
        exact K1 e1 e2 e3 e4
      · rw [if_pos (Int32.not_le.mp z)] at e1
        exact K1 e1 e2 e3 e4
  case if_icmp cn off =>
    dsimp only at hck hd
    rw [Bool.and_eq_true, decide_eq_true_eq] at hck
    have hlen := beqE hck.1
    subst hlen
    cases cn <;> dsimp only at ha
    case eq =>
      obtain ⟨x, y, S1, rfl, e1, e2, e3, e4⟩ := brII_inv ha
      refine lv_icmp_eq (tgt := b) hx hb hd hck.2 (fun z => ?_) (fun z => ?_)
      · rw [if_pos z] at e1
        exact K1 e1 e2 e3 e4
      · rw [if_neg z] at e1
        exact K1 e1 e2 e3 e4
    case ne =>
      obtain ⟨x, y, S1, rfl, e1, e2, e3, e4⟩ := brII_inv ha
      refine lv_icmp_ne (tgt := b) hx hb hd hck.2 (fun z => ?_) (fun z => ?_)
      · rw [if_neg z] at e1
        exact K1 e1 e2 e3 e4
      · rw [if_pos z] at e1
        exact K1 e1 e2 e3 e4
    case lt =>
      obtain ⟨x, y, S1, rfl, e1, e2, e3, e4⟩ := brII_inv ha
      refine lv_icmp_lt (tgt := b) hx hb hd hck.2 (fun z => ?_) (fun z => ?_)
      · rw [if_pos z] at e1
        exact K1 e1 e2 e3 e4
      · rw [if_neg z] at e1
        exact K1 e1 e2 e3 e4
    case ge =>
      obtain ⟨x, y, S1, rfl, e1, e2, e3, e4⟩ := brII_inv ha
      refine lv_icmp_ge (tgt := b) hx hb hd hck.2 (fun z => ?_) (fun z => ?_)
      · rw [if_neg (Int32.not_lt.mpr z)] at e1
        exact K1 e1 e2 e3 e4
      · rw [if_pos (Int32.not_le.mp z)] at e1
        exact K1 e1 e2 e3 e4
    case gt =>
      obtain ⟨x, y, S1, rfl, e1, e2, e3, e4⟩ := brII_inv ha
      refine lv_icmp_gt (tgt := b) hx hb hd hck.2 (fun z => ?_) (fun z => ?_)
      · rw [if_pos z] at e1
        exact K1 e1 e2 e3 e4
      · rw [if_neg z] at e1
        exact K1 e1 e2 e3 e4
    case le =>
      obtain ⟨x, y, S1, rfl, e1, e2, e3, e4⟩ := brII_inv ha
      refine lv_icmp_le (tgt := b) hx hb hd hck.2 (fun z => ?_) (fun z => ?_)
      · rw [if_neg (Int32.not_lt.mpr z)] at e1
        exact K1 e1 e2 e3 e4
      · rw [if_pos (Int32.not_le.mp z)] at e1
        exact K1 e1 e2 e3 e4
  case goto off =>
    dsimp only at ha hck hd
    rw [Bool.and_eq_true, decide_eq_true_eq] at hck
    have hlen := beqE hck.1
    subst hlen
    obtain ⟨e1, e2, e3, e4⟩ := nx_inv ha
    exact lv_goto hx hb hd hck.2 (K1 e1 e2 e3 e4)
  case ifnull off =>
    dsimp only at ha hck hd
    rw [Bool.and_eq_true, decide_eq_true_eq] at hck
    have hlen := beqE hck.1
    subst hlen
    split at ha
    · obtain ⟨e1, e2, e3, e4⟩ := nx_inv ha
      exact lv_ifnullN hx hb hd hck.2 (K1 e1 e2 e3 e4)
    · obtain ⟨e1, e2, e3, e4⟩ := nx_inv ha
      exact lv_ifnull hx hb hd (K1 e1 e2 e3 e4)
    · cases ha
  case ifnonnull off =>
    dsimp only at ha hck hd
    rw [Bool.and_eq_true, decide_eq_true_eq] at hck
    have hlen := beqE hck.1
    subst hlen
    split at ha
    · obtain ⟨e1, e2, e3, e4⟩ := nx_inv ha
      exact lv_ifnonnullN hx hb hd (K1 e1 e2 e3 e4)
    · obtain ⟨e1, e2, e3, e4⟩ := nx_inv ha
      exact lv_ifnonnull hx hb hd hck.2 (K1 e1 e2 e3 e4)
    · cases ha
  case tableswitch dd lo hi offs =>
    dsimp only at ha hck hd
    simp only [Bool.and_eq_true, decide_eq_true_eq] at hck
    obtain ⟨⟨⟨⟨⟨⟨h1, h2⟩, h3⟩, h4⟩, h5⟩, h6⟩, h7⟩ := hck
    obtain ⟨x, S1, rfl, e1, e2, e3, e4⟩ := brI_inv ha
    obtain ⟨lo2, rfl⟩ := Int.eq_ofNat_of_zero_le h2
    have hts2 := tsw_spec x (fun t => ((pc : Int) + offs.getD t 0).toNat) b lo2 (hi - lo2 + 1).toNat 0 (by omega)
    simp only [Nat.add_zero, Nat.zero_add] at hts2
    rw [h4, show ((lo2 : Int)).toNat = lo2 by omega, hts2] at e1
    by_cases hin : (lo2 : Int) ≤ x.toInt ∧ x.toInt ≤ hi
    · rw [if_pos ⟨by omega, by omega⟩] at e1
      have hsz : (x.toInt - (lo2 : Int)).toNat < offs.size := by omega
      have hget : offs[(x.toInt - (lo2 : Int)).toNat]? = some (offs.getD (x.toInt - (lo2 : Int)).toNat 0) := by
        rw [Array.getElem?_eq_getElem hsz, Array.getD_eq_getD_getElem?, Array.getElem?_eq_getElem hsz]
        rfl
      have h8 : 0 ≤ (pc : Int) + offs.getD (x.toInt - (lo2 : Int)).toNat 0 := by
        have hm := Array.mem_of_getElem? hget
        have := Array.all_eq_true'.mp h7 _ hm
        exact of_decide_eq_true this
      exact lv_tableIn hx hb hd (by omega) (by omega) hget (Int.toNat_of_nonneg h8).symm (K1 e1 e2 e3 e4)
    · rw [if_neg (by omega)] at e1
      exact lv_tableOut hx hb hd (by omega) h1 (K1 e1 e2 e3 e4)
  case getfield n =>
    dsimp only at ha hck hd
    rw [Bool.and_eq_true] at hck
    have hlen := beqE hck.1
    subst hlen
    split at ha
    · split at ha
      · rename_i hok
        obtain ⟨e1, e2, e3, e4⟩ := nx_inv ha
        exact getW C hR hck.2 hok hd (K1 e1 e2 e3 e4)
      · cases ha
    · cases ha
  case putfield n =>
    dsimp only at ha hck hd
    simp only [Bool.and_eq_true] at hck
    obtain ⟨⟨h1, h2⟩, h3⟩ := hck
    have hlen := beqE h1
    subst hlen
    split at ha
    · split at ha
      · rename_i hok
        rw [Bool.and_eq_true] at hok
        split at ha
        · rename_i h2' hw
          obtain ⟨e1, e2, e3, e4⟩ := nx_inv ha
          obtain ⟨a1, a2, -⟩ := wrf_spec hw
          subst e4
          exact putW C hR h2 h3 (Nat.le_of_ble_eq_true hok.1) hok.2 hw hd (fun H1 l1 hR1 => K3 H1 l1 e1 e2 e3 a1 a2 hR1)
        · cases ha
      · cases ha
    · cases ha
  case iaload =>
    dsimp only at ha hck hd
    have hlen := beqE hck
    subst hlen
    unfold ald at ha
    split at ha
    · split at ha
      · rename_i hok
        rw [Bool.and_eq_true] at hok
        obtain ⟨e1, e2, e3, e4⟩ := nx_inv ha
        exact ialdW C hR (beqE hok.1) hok.2 hd (K1 e1 e2 e3 e4)
      · cases ha
    · cases ha
  case laload =>
    dsimp only at ha hck hd
    have hlen := beqE hck
    subst hlen
    unfold ald at ha
    split at ha
    · split at ha
      · rename_i hok
        rw [Bool.and_eq_true] at hok
        obtain ⟨e1, e2, e3, e4⟩ := nx_inv ha
        exact laldW C hR (beqE hok.1) hok.2 hd (K1 e1 e2 e3 e4)
      · cases ha
    · cases ha
  case aaload =>
    dsimp only at ha hck hd
    have hlen := beqE hck
    subst hlen
    unfold ald at ha
    split at ha
    · split at ha
      · rename_i hok
        rw [Bool.and_eq_true] at hok
        obtain ⟨e1, e2, e3, e4⟩ := nx_inv ha
        exact aaldW C hR (beqE hok.1) hok.2 hd (K1 e1 e2 e3 e4)
      · cases ha
    · cases ha
  case baload =>
    dsimp only at ha hck hd
    have hlen := beqE hck
    subst hlen
    unfold ald at ha
    split at ha
    · split at ha
      · rename_i hok
        rw [Bool.and_eq_true, Bool.or_eq_true] at hok
        obtain ⟨e1, e2, e3, e4⟩ := nx_inv ha
        exact zaldW C hR (hok.1.imp beqE beqE) hok.2 hd (K1 e1 e2 e3 e4)
      · cases ha
    · cases ha
  case iastore =>
    dsimp only at ha hck hd
    have hlen := beqE hck
    subst hlen
    unfold ast at ha
    split at ha
    · split at ha
      · rename_i v x i S1 hok
        simp only [Bool.and_eq_true] at hok
        cases v <;> dsimp only at ha <;> first | (cases ha; done) | skip
        obtain ⟨e1, e2, e3, e4⟩ := nx_inv ha
        subst e4
        exact iastW C hR (Nat.le_of_ble_eq_true hok.1.1) (beqE hok.1.2) hok.2 hd (fun H1 l1 hR1 => K3 H1 l1 e1 e2 e3 rfl rfl hR1)
      · cases ha
    · cases ha
  case lastore =>
    dsimp only at ha hck hd
    have hlen := beqE hck
    subst hlen
    unfold ast at ha
    split at ha
    · split at ha
      · rename_i v x i S1 hok
        simp only [Bool.and_eq_true] at hok
        cases v <;> dsimp only at ha <;> first | (cases ha; done) | skip
        obtain ⟨e1, e2, e3, e4⟩ := nx_inv ha
        subst e4
        exact lastW C hR (Nat.le_of_ble_eq_true hok.1.1) (beqE hok.1.2) hok.2 hd (fun H1 l1 hR1 => K3 H1 l1 e1 e2 e3 rfl rfl hR1)
      · cases ha
    · cases ha
  case bastore =>
    dsimp only at ha hck hd
    have hlen := beqE hck
    subst hlen
    unfold ast at ha
    split at ha
    · split at ha
      · rename_i v x i S1 hok
        simp only [Bool.and_eq_true, Bool.or_eq_true] at hok
        cases v <;> dsimp only at ha <;> first | (cases ha; done) | skip
        obtain ⟨e1, e2, e3, e4⟩ := nx_inv ha
        subst e4
        rcases hok.1.2 with z | z
        · have z2 := beqE z
          have z3 : Nat.beq (AK h i).1 22 = true := z
          rw [z3, cond_true] at K3
          exact bastW C hR (Nat.le_of_ble_eq_true hok.1.1) z2 hok.2 hd (fun H1 l1 hR1 => K3 H1 l1 e1 e2 e3 rfl rfl hR1)
        · have z2 := beqE z
          have z3 : Nat.beq (AK h i).1 22 = false := by rw [z2]; rfl
          rw [z3, cond_false] at K3
          exact zastW C hR (Nat.le_of_ble_eq_true hok.1.1) z2 hok.2 hd (fun H1 l1 hR1 => K3 H1 l1 e1 e2 e3 rfl rfl hR1)
      · cases ha
    · cases ha
  case aastore =>
    dsimp only at ha hck hd
    have hlen := beqE hck
    subst hlen
    unfold ast at ha
    split at ha
    · split at ha
      · rename_i v x i S1 hok
        simp only [Bool.and_eq_true] at hok
        cases v <;> dsimp only at ha <;> first | (cases ha; done) | skip
        rename_i y
        by_cases hy : (Nat.ble 2 y && (Nat.beq (AK h y).1 0 || Nat.beq (AK h y).1 1 || Nat.beq (AK h y).1 2 || Nat.beq (AK h y).1 4 || Nat.beq (AK h y).1 7)) = true
        · rw [if_pos hy] at ha
          dsimp only at ha
          obtain ⟨e1, e2, e3, e4⟩ := nx_inv ha
          subst e4
          simp only [Bool.and_eq_true, Bool.or_eq_true] at hy
          have hy2 : ((AK h y).1 = 7 ∨ castY.contains ((AK h y).1, 7) = true) ∧ (AK h y).1 < 13 := by
            rcases hy.2 with (((z | z) | z) | z) | z <;> rw [beqE z] <;> decide
          exact aastW C hR (Nat.le_of_ble_eq_true hok.1.1) (beqE hok.1.2) hok.2 (Nat.le_of_ble_eq_true hy.1) hy2.1 hy2.2 hd (fun H1 l1 hR1 => K3 H1 l1 e1 e2 e3 rfl rfl hR1)
        · rw [if_neg hy] at ha
          cases ha
      · cases ha
    · cases ha
  case arraylength =>
    dsimp only at ha hck hd
    have hlen := beqE hck
    subst hlen
    split at ha
    · split at ha
      · rename_i hok
        simp only [Bool.or_eq_true] at hok
        obtain ⟨e1, e2, e3, e4⟩ := nx_inv ha
        refine alenW C hR ?_ hd (K1 e1 e2 e3 e4)
        rcases hok with (z | z) | z
        · exact Or.inl (beqE z)
        · exact Or.inr (Or.inl (beqE z))
        · exact Or.inr (Or.inr (beqE z))
      · cases ha
    · cases ha
  case newarray t =>
    dsimp only at ha hck hd
    rw [Bool.and_eq_true] at hck
    have hlen := beqE hck.1
    subst hlen
    unfold newA at ha
    split at ha
    · split at ha
      · rename_i hok
        simp only [Bool.and_eq_true, decide_eq_true_eq] at hok
        obtain ⟨e1, e2, e3, e4⟩ := nx_inv ha
        obtain ⟨n1, n2⟩ := N4 e4
        have hle := Nat.le_of_ble_eq_true hok.2
        have ek : ∀ kd n, AK (newO h kd n) (AN h) = (kd, n) := fun kd n => if_pos rfl
        have eI : ∀ kd n, AI (newO h kd n) (AN h) = fun _ => 0 := fun kd n => if_pos rfl
        have eL : ∀ kd n, AL (newO h kd n) (AN h) = fun _ => 0 := fun kd n => if_pos rfl
        have hck2 := hck.2
        cases t <;> dsimp only at hck2 <;> first | (cases hck2; done) | (have eb := beqE hck2; subst eb)
        · exact newaW (t := 3) (kd := 23) (ty := .boolean) C hR rfl rfl (fun C z => by cases z) in_boolean (fun n => by rw [ce_arr (t := 3) (kd := 23) (by rw [ek]) (Or.inr (Or.inr ⟨rfl, rfl⟩)), ek, eI]; rfl) rfl (by decide) hok.1 hle hd n1 n2 (fun H1 hR1 => K4 H1 locs e1 e2 e3 e4 hR1)
        · exact newaW (t := 2) (kd := 22) (ty := .byte) C hR rfl rfl (fun C z => by cases z) in_byte (fun n => by rw [ce_arr (t := 2) (kd := 22) (by rw [ek]) (Or.inr (Or.inl ⟨rfl, rfl⟩)), ek, eI]; rfl) rfl (by decide) hok.1 hle hd n1 n2 (fun H1 hR1 => K4 H1 locs e1 e2 e3 e4 hR1)
        · exact newaW (t := 0) (kd := 20) (ty := .int) C hR rfl rfl (fun C z => by cases z) in_int (fun n => by rw [ce_arr (t := 0) (kd := 20) (by rw [ek]) (Or.inl ⟨rfl, rfl⟩), ek, eI]; rfl) rfl (by decide) hok.1 hle hd n1 n2 (fun H1 hR1 => K4 H1 locs e1 e2 e3 e4 hR1)
        · exact newaW (t := 1) (kd := 21) (ty := .long) C hR rfl rfl (fun C z => by cases z) in_long (fun n => by rw [ce_long (by rw [ek]), ek, eL]; rfl) rfl (by decide) hok.1 hle hd n1 n2 (fun H1 hR1 => K4 H1 locs e1 e2 e3 e4 hR1)
      · cases ha
    · cases ha
  case anewarray n =>
    dsimp only at ha hck hd
    simp only [Bool.and_eq_true] at hck
    have hlen := beqE hck.1.1
    have hn := beqE hck.2
    subst hlen hn
    unfold newA at ha
    split at ha
    · split at ha
      · rename_i hok
        simp only [Bool.and_eq_true, decide_eq_true_eq] at hok
        obtain ⟨e1, e2, e3, e4⟩ := nx_inv ha
        obtain ⟨n1, n2⟩ := N4 e4
        exact newqW C hR (beqE hck.1.2) hok.1 (Nat.le_of_ble_eq_true hok.2) hd n1 n2 (fun H1 hR1 => K4 H1 locs e1 e2 e3 e4 hR1)
      · cases ha
    · cases ha
  case new n =>
    dsimp only at ha hck hd
    rw [Bool.and_eq_true] at hck
    have hlen := beqE hck.1
    subst hlen
    obtain ⟨e1, e2, e3, e4⟩ := nx_inv ha
    obtain ⟨n1, n2⟩ := N4 e4
    exact newW C hR hck.2 hd n1 n2 (fun H1 hR1 => K4 H1 locs e1 e2 e3 e4 hR1)
  case instanceof n =>
    dsimp only at ha hck hd
    rw [Bool.and_eq_true] at hck
    have hlen := beqE hck.1
    subst hlen
    split at ha
    · rename_i i S1
      split at ha
      · rename_i r hlk2
        obtain ⟨e1, e2, e3, e4⟩ := nx_inv ha
        obtain ⟨q, hq, hv⟩ := List.any_eq_true.mp hck.2
        simp only [Bool.and_eq_true] at hv
        obtain ⟨⟨v1, v2⟩, v3⟩ := hv
        have w1 := beqE v1
        have w2 := beqE v2
        have hf2 := List.all_eq_true.mp inT_ok q hq
        simp only [inChk, Bool.and_eq_true, decide_eq_true_eq] at hf2
        rw [w1, w2] at hf2
        have hlink := hts _ (tAt_in hf2.1)
        have v4 := List.all_eq_true.mp v3 _ (lookup_in hlk2)
        simp only [Bool.and_eq_true, Bool.or_eq_true] at v4
        have h13 : (AK h i).1 < 13 := Nat.le_of_ble_eq_true v4.1
        have h2 : 2 ≤ i := hR.big (by omega)
        have he := hR.at h2 (by omega)
        rw [ce_obj h13] at he
        have hrecv := va_recv hW.1 hR.2.1 (clsP _ h13).1 he
        rcases v4.2 with ⟨z1, z2⟩ | ⟨z1, z2⟩
        · have zr := beqE z1
          subst zr
          rcases z2 with z2 | z2
          · have z3 := beqE z2
            have hcl := (hW.1.1 _ _ (clsP _ h13).1).2
            rw [← z3] at hlink
            exact va_instS hx hb hown hlink hcl hrecv hd (K1 e1 e2 e3 e4)
          · exact va_instY hx hb hown hlink (hW.2.2.1 ((AK h i).1, q.2.2.2) (List.contains_iff_mem.mp z2)) hrecv hd (K1 e1 e2 e3 e4)
        · have zr := beqE z1
          subst zr
          exact va_instNo hx hb hown hlink (hW.2.2.2.1 ((AK h i).1, q.2.2.2) (List.contains_iff_mem.mp z2)) hrecv hd (K1 e1 e2 e3 e4)
      · cases ha
    · cases ha
  case getstatic n =>
    dsimp only at ha hck hd
    simp only [Bool.and_eq_true] at hck
    have hlen := beqE hck.1.1
    have hn := beqE hck.2
    have ho := beqE hck.1.2
    subst hlen hn
    rw [ho] at hown
    obtain ⟨e1, e2, e3, e4⟩ := nx_inv ha
    exact va_gets (own := rcl 11) hx hb hW.2.2.2.2.2.1 hR.2.2.1 hown (hts _ (tAt_in gst_ok)) (fun _ z => z) hd (K1 e1 e2 e3 e4)
  case invokevirtual n =>
    dsimp only at ha hck hd
    split at ha
    · split at ha
      · exact (cal_no ha).elim
      · cases ha
    · cases ha
  case invokespecial n =>
    dsimp only at ha hck hd
    rw [Bool.and_eq_true] at hck
    have hlen := beqE hck.1
    subst hlen
    split at ha
    · rename_i i S1 hdrop
      cases hb9 : Nat.beq b 9999 with
      | false =>
        rw [hb9, cond_false] at ha
        exact (cal_no ha).elim
      | true =>
        rw [hb9, cond_true] at ha
        have hck2 := hck.2
        rw [hb9, cond_true, Bool.and_eq_true] at hck2
        have hc0 := beqE hck2.1
        subst hc0
        rw [List.drop_zero] at hdrop
        subst hdrop
        split at ha
        · rename_i hcat
          obtain ⟨e1, e2, e3, e4⟩ := nx_inv ha
          obtain ⟨q, hq, hv⟩ := List.any_eq_true.mp hck2.2
          rw [Bool.and_eq_true] at hv
          have hf2 := List.all_eq_true.mp oT_ok q hq
          unfold oChk at hf2
          rw [beqE hv.1, beqE hv.2] at hf2
          have hcat2 := catOK_le hcat
          have hroom := lv_room (m := m) (pc := pc) (ls := ls) (rest := ([] : List Value)) (st := S1.map (rv g)) (by rw [rv_map_cat]; exact hcat2)
          refine W.objInit hx hb hown (hts _ (tAt_in hf2)) (hts _ (tAt_in oInst_ok)) (hts _ (tAt_in oCode_ok)) rfl (by rw [hml]; exact hl.1) rfl hd hfr ?_ ?_
          · have : (F0 m pc ls (.ref (adr g i) :: S1.map (rv g))).monitorRoom = (F0 m pc ls ([] : List Value)).monitorRoom := rfl
            show 2 * (F0 m pc ls (.ref (adr g i) :: S1.map (rv g))).monitorRoom + _ + 12 ≤ R.locals
            rw [this]
            omega
          · exact W.eq rfl (K1 e1 e2 e3 e4)
        · cases ha
    · cases ha
  case invokestatic n =>
    dsimp only at ha hck hd
    rw [Bool.and_eq_true] at hck
    have hlen := beqE hck.1
    subst hlen
    have hck2 := hck.2
    have hm1 := mth_ok
    simp only [Bool.and_eq_true] at hm1
    obtain ⟨⟨⟨⟨m1, m2⟩, m3⟩, m4⟩, m5⟩ := hm1
    cases hb9 : Nat.beq b 9001 with
    | true =>
      rw [hb9, cond_true] at ha hck2
      obtain ⟨x, y, S1, rfl, e1, e2, e3, e4, e5⟩ := mmx_inv ha
      obtain ⟨q, hq, hv⟩ := List.any_eq_true.mp hck2
      rw [Bool.and_eq_true] at hv
      have hf2 := List.all_eq_true.mp mxT_ok q hq
      rw [beqE hv.1, beqE hv.2] at hf2
      have hcat2 := catOK_le e5
      exact va_mmax hx hb (hml.trans hl.1.symm) hown (hts _ (tAt_in hf2)) (hts _ (tAt_in m1)) (hts _ (tAt_in m5)) (hts _ (tAt_in m2)) hfr (by rw [rv_map_cat]; omega) (by omega) (by omega) hd (K1 e1 e2 e3 e4)
    | false =>
      rw [hb9, cond_false] at ha hck2
      cases hb8 : Nat.beq b 9002 with
      | true =>
        rw [hb8, cond_true] at ha hck2
        obtain ⟨x, y, S1, rfl, e1, e2, e3, e4, e5⟩ := mmx_inv ha
        obtain ⟨q, hq, hv⟩ := List.any_eq_true.mp hck2
        rw [Bool.and_eq_true] at hv
        have hf2 := List.all_eq_true.mp mnT_ok q hq
        rw [beqE hv.1, beqE hv.2] at hf2
        have hcat2 := catOK_le e5
        exact va_mmin hx hb (hml.trans hl.1.symm) hown (hts _ (tAt_in hf2)) (hts _ (tAt_in m3)) (hts _ (tAt_in m5)) (hts _ (tAt_in m4)) hfr (by rw [rv_map_cat]; omega) (by omega) (by omega) hd (K1 e1 e2 e3 e4)
      | false =>
        rw [hb8, cond_false] at ha
        split at ha
        · exact (cal_no ha).elim
        · cases ha
  case ireturn =>
    exact (retI_no ha).elim
  case lreturn =>
    dsimp only at ha hck hd
    split at ha
    · split at ha <;> cases ha
    · cases ha
  case areturn =>
    dsimp only at ha hck hd
    split at ha
    · split at ha <;> cases ha
    · cases ha
  case return_ =>
    dsimp only at ha hck hd
    split at ha <;> cases ha
  all_goals (cases ha)
end STEP
end
section
/-! THE SIMULATION: what the abstract machine does, the machine does -/
theorem newO_mono (h : AH) (kd n : Nat) : AN h ≤ AN (newO h kd n) ∧ AT h ≤ AT (newO h kd n) := ⟨Nat.le_succ _, Nat.le_add_right _ _⟩
theorem act_mono {k pc : Nat} {op : OpE} {L S : List Value} {h : AH} {pc' : Nat} {L' S' : List Value} {h' : AH} (ha : act k pc op L S h = some (.inl (pc', L', S', h'))) : AN h ≤ AN h' ∧ AT h ≤ AT h' := by
  have K : h' = h → AN h ≤ AN h' ∧ AT h ≤ AT h' := by
    rintro rfl
    exact ⟨Nat.le_refl _, Nat.le_refl _⟩
  have N : ∀ {q : Nat} {L S : List Value} {h2 : AH}, nx q L S h2 = some (.inl (pc', L', S', h')) → (AN h ≤ AN h2 ∧ AT h ≤ AT h2) → AN h ≤ AN h' ∧ AT h ≤ AT h' := fun e z => by
    obtain ⟨-, -, -, rfl⟩ := nx_inv e
    exact z
  have Z : AN h ≤ AN h ∧ AT h ≤ AT h := ⟨Nat.le_refl _, Nat.le_refl _⟩
  obtain ⟨len, ins, vi, vl, b, c2, lst⟩ := op
  unfold act at ha
  cases ins
  case ifCond cn off => cases cn <;> (obtain ⟨x, S1, -, -, -, -, e4⟩ := brI_inv ha; exact K e4)
  case if_icmp cn off => cases cn <;> (obtain ⟨x, y, S1, -, -, -, -, e4⟩ := brII_inv ha; exact K e4)
  case tableswitch => obtain ⟨x, S1, -, -, -, -, e4⟩ := brI_inv ha; exact K e4
  case newarray t =>
    dsimp only at ha
    unfold newA at ha
    split at ha
    · split at ha
      · exact N ha (newO_mono _ _ _)
      · cases ha
    · cases ha
  case anewarray t =>
    dsimp only at ha
    unfold newA at ha
    split at ha
    · split at ha
      · exact N ha (newO_mono _ _ _)
      · cases ha
    · cases ha
  case new t => exact N ha (newO_mono _ _ _)
  case putfield n =>
    dsimp only at ha
    split at ha
    · split at ha
      · split at ha
        · rename_i hw
          obtain ⟨a1, a2, -⟩ := wrf_spec hw
          exact N ha ⟨Nat.le_of_eq a1.symm, Nat.le_of_eq a2.symm⟩
        · cases ha
      · cases ha
    · cases ha
  case invokevirtual n =>
    dsimp only at ha
    split at ha
    · split at ha
      · exact (cal_no ha).elim
      · cases ha
    · cases ha
  case invokespecial n =>
    dsimp only at ha
    split at ha
    · cases hb9 : Nat.beq b 9999 with
      | false => rw [hb9, cond_false] at ha; exact (cal_no ha).elim
      | true =>
        rw [hb9, cond_true] at ha
        split at ha
        · exact N ha Z
        · cases ha
    · cases ha
  case invokestatic n =>
    dsimp only at ha
    cases hb9 : Nat.beq b 9001 with
    | true =>
      rw [hb9, cond_true] at ha
      obtain ⟨x, y, S1, -, -, -, -, e4, -⟩ := mmx_inv ha
      exact K e4
    | false =>
      rw [hb9, cond_false] at ha
      cases hb8 : Nat.beq b 9002 with
      | true =>
        rw [hb8, cond_true] at ha
        obtain ⟨x, y, S1, -, -, -, -, e4, -⟩ := mmx_inv ha
        exact K e4
      | false =>
        rw [hb8, cond_false] at ha
        split at ha
        · exact (cal_no ha).elim
        · cases ha
  case ireturn => exact (retI_no ha).elim
  case iastore =>
    dsimp only at ha
    unfold ast at ha
    split at ha
    · split at ha
      · rename_i v x i S1 hok
        cases v <;> dsimp only at ha <;> first | (cases ha; done) | exact N ha ⟨Nat.le_refl _, Nat.le_refl _⟩
      · cases ha
    · cases ha
  case bastore =>
    dsimp only at ha
    unfold ast at ha
    split at ha
    · split at ha
      · rename_i v x i S1 hok
        cases v <;> dsimp only at ha <;> first | (cases ha; done) | exact N ha ⟨Nat.le_refl _, Nat.le_refl _⟩
      · cases ha
    · cases ha
  case lastore =>
    dsimp only at ha
    unfold ast at ha
    split at ha
    · split at ha
      · rename_i v x i S1 hok
        cases v <;> dsimp only at ha <;> first | (cases ha; done) | exact N ha ⟨Nat.le_refl _, Nat.le_refl _⟩
      · cases ha
    · cases ha
  case aastore =>
    dsimp only at ha
    unfold ast at ha
    split at ha
    · split at ha
      · rename_i v x i S1 hok
        cases v <;> dsimp only at ha <;> first | (cases ha; done) | skip
        rename_i y
        by_cases hy : (Nat.ble 2 y && (Nat.beq (AK h y).1 0 || Nat.beq (AK h y).1 1 || Nat.beq (AK h y).1 2 || Nat.beq (AK h y).1 4 || Nat.beq (AK h y).1 7)) = true
        · rw [if_pos hy] at ha
          exact N ha ⟨Nat.le_refl _, Nat.le_refl _⟩
        · rw [if_neg hy] at ha
          cases ha
      · cases ha
    · cases ha
  case iaload => dsimp only at ha; unfold ald at ha; split at ha <;> (try split at ha) <;> first | exact N ha Z | cases ha
  case baload => dsimp only at ha; unfold ald at ha; split at ha <;> (try split at ha) <;> first | exact N ha Z | cases ha
  case laload => dsimp only at ha; unfold ald at ha; split at ha <;> (try split at ha) <;> first | exact N ha Z | cases ha
  case aaload => dsimp only at ha; unfold ald at ha; split at ha <;> (try split at ha) <;> first | exact N ha Z | cases ha
  case iadd => obtain ⟨x, y, S1, -, -, -, -, e4⟩ := bin_inv ha; exact K e4
  case isub => obtain ⟨x, y, S1, -, -, -, -, e4⟩ := bin_inv ha; exact K e4
  case imul => obtain ⟨x, y, S1, -, -, -, -, e4⟩ := bin_inv ha; exact K e4
  case iand => obtain ⟨x, y, S1, -, -, -, -, e4⟩ := bin_inv ha; exact K e4
  case ior => obtain ⟨x, y, S1, -, -, -, -, e4⟩ := bin_inv ha; exact K e4
  case ixor => obtain ⟨x, y, S1, -, -, -, -, e4⟩ := bin_inv ha; exact K e4
  case ishl => obtain ⟨x, y, S1, -, -, -, -, e4⟩ := bin_inv ha; exact K e4
  case ishr => obtain ⟨x, y, S1, -, -, -, -, e4⟩ := bin_inv ha; exact K e4
  case iushr => obtain ⟨x, y, S1, -, -, -, -, e4⟩ := bin_inv ha; exact K e4
  case ladd => obtain ⟨x, y, S1, -, -, -, -, e4⟩ := binL_inv ha; exact K e4
  case lmul => obtain ⟨x, y, S1, -, -, -, -, e4⟩ := binL_inv ha; exact K e4
  case land => obtain ⟨x, y, S1, -, -, -, -, e4⟩ := binL_inv ha; exact K e4
  case lor => obtain ⟨x, y, S1, -, -, -, -, e4⟩ := binL_inv ha; exact K e4
  case lshl => obtain ⟨x, y, S1, -, -, -, -, e4⟩ := shL_inv ha; exact K e4
  case lshr => obtain ⟨x, y, S1, -, -, -, -, e4⟩ := shL_inv ha; exact K e4
  case lushr => obtain ⟨x, y, S1, -, -, -, -, e4⟩ := shL_inv ha; exact K e4
  case i2l => obtain ⟨x, S1, -, -, -, -, e4⟩ := un1_inv ha; exact K e4
  case i2b => obtain ⟨x, S1, -, -, -, -, e4⟩ := un1_inv ha; exact K e4
  all_goals first
    | (cases ha; done)
    | exact N ha Z
    | (dsimp only at ha
       first | unfold loI at ha | unfold loL at ha | unfold loA at ha | unfold soI at ha | unfold soL at ha | unfold soA at ha | skip
       repeat' (first | exact N ha Z | (cases ha; done) | split at ha))
theorem exec_mono : ∀ (n d k pc : Nat) (L S : List Value) (h : AH) (r : Option Value × AH), exec n d k pc L S h = some r → AN h ≤ AN r.2 ∧ AT h ≤ AT r.2
  | 0, _, _, _, _, _, _, _, e => by cases e
  | n + 1, d, k, pc, L, S, h, r, e => by
    unfold exec at e
    split at e
    · cases e
    · split at e
      · cases e
      · rename_i q hq
        obtain ⟨a1, a2⟩ := act_mono (pc' := q.1) (L' := q.2.1) (S' := q.2.2.1) (h' := q.2.2.2) hq
        obtain ⟨b1, b2⟩ := exec_mono n _ _ _ _ _ _ _ e
        exact ⟨Nat.le_trans a1 b1, Nat.le_trans a2 b2⟩
      · cases e
        exact ⟨Nat.le_refl _, Nat.le_refl _⟩
      · split at e
        · cases e
        · split at e
          · cases e
          · rename_i r1 h1
            obtain ⟨a1, a2⟩ := exec_mono n _ _ _ _ _ _ _ h1
            obtain ⟨b1, b2⟩ := exec_mono n _ _ _ _ _ _ _ e
            exact ⟨Nat.le_trans a1 b1, Nat.le_trans a2 b2⟩
def SimW (n : Nat) : Prop := ∀ (d k pc : Nat) (L S : List Value) (h : AH) (r : Option Value) (h' : AH), exec n d k pc L S h = some (r, h') → k < 203 →
  ∀ (p : Program) (l : Launch) (e : Env) (R : Room) (s : State) (m : MethodId) (args : Array Value) (below : List Frame) (meth : Method) (c : Code) (H : Heap) (locs : List Loc) (cells slots : Nat) (Q : State → Prop) (ls : Array Slot) (g : Nat × Nat × Nat) (Ls : Nat) (xs : Nat → Int32) (D : va_G) (cA : Nat → ClassId),
  Cx p s m args meth c k g Ls xs D cA → Rel g Ls xs D cA s.heap h H locs → LH g ls (mMax k) L → d + 1 ≤ R.frames → 60 * (d + 1) ≤ R.locals → cells + (AN h' - AN h) ≤ R.cells → slots + (AT h' - AT h) ≤ R.slots →
  (∀ (pc1 : Nat) (op1 : OpE) (L1 S1 : List Value) (ls1 : Array Slot) (H1 : Heap) (locs1 : List Loc), opAt k pc1 = some op1 → act k pc1 op1 L1 S1 h' = some (.inr (.inr r)) → Rel g Ls xs D cA s.heap h' H1 locs1 → W p l e R s m args below meth c H1 locs1 (cells + (AN h' - AN h)) (slots + (AT h' - AT h)) Q (F0 m pc1 ls1 (S1.map (rv g)))) →
  W p l e R s m args below meth c H locs cells slots Q (F0 m pc ls (S.map (rv g)))
/-- the contract of a method out of its run -/
def conP (g : Nat × Nat × Nat) (Ls : Nat) (xs : Nat → Int32) (D : va_G) (cA : Nat → ClassId) (h : AH) : State → Prop := fun U => WF g Ls xs D cA U ∧ Rel g Ls xs D cA U.heap h U.heap []
def conQ (g : Nat × Nat × Nat) (Ls : Nat) (xs : Nat → Int32) (D : va_G) (cA : Nat → ClassId) (r : Option Value) (h' : AH) : Array Value → State → Outcome → State → Prop := fun _ st o t => o = .returned (r.map (rv g)) ∧ Rel g Ls xs D cA st.heap h' t.heap []
theorem ret_fin {k pc : Nat} {op : OpE} {L S : List Value} {h : AH} {r : Option Value} (hk : k < 203) (hop : opAt k pc = some op) (ha : act k pc op L S h = some (.inr (.inr r)))
    {p : Program} {l : Launch} {e : Env} {R : Room} {s : State} {m : MethodId} {args : Array Value} {below : List Frame} {meth : Method} {c : Code} {H : Heap} {locs : List Loc} {cells slots : Nat} {ls : Array Slot} {g : Nat × Nat × Nat} {Ls : Nat} {xs : Nat → Int32} {D : va_G} {cA : Nat → ClassId}
    (C : Cx p s m args meth c k g Ls xs D cA) (hR : Rel g Ls xs D cA s.heap h H locs) : W p l e R s m args below meth c H locs cells slots (MQ below (conQ g Ls xs D cA r h) args s cells slots (Aw g)) (F0 m pc ls (S.map (rv g))) := by
  obtain ⟨hd, hck⟩ := op_ok hk hop
  obtain ⟨len, ins, vi, vl, b, c2, lst⟩ := op
  obtain ⟨hx, hb, hml, hown, hts, hnm, hrt, hlk, hW⟩ := id C
  have hq : ∀ t : State, t.heap = H → Rel g Ls xs D cA s.heap h t.heap [] := fun t ht => by
    rw [ht]
    obtain ⟨r1, r2, r3, r4, r5, r6, r7, r8, r9⟩ := hR
    exact ⟨r1, r2, ⟨r3.1, r3.2.1, fun q hq => by cases hq⟩, r4, r5, r6, r7, r8, r9⟩
  have hf : ∀ q ∈ locs, Aw g q.base := hR.2.2.1.2.2
  unfold chk at hck
  unfold act at ha
  cases ins
  case ireturn =>
    dsimp only at ha hck hd
    have hlen := beqE hck
    subst hlen
    unfold retI at ha
    split at ha
    · split at ha
      · rename_i hm
        cases ha
        exact W.iret hx hb (hrt.trans hm) (fun t ht _ => ⟨rfl, hq t ht⟩) hf hd hlk
      · rename_i hm
        split at ha
        · rename_i hB
          cases ha
          exact W.zret (ty := .boolean) hx hb (hrt.trans hm) (isB_nar hB).1 (fun t ht _ => ⟨rfl, hq t ht⟩) hf hd hlk
        · cases ha
      · cases ha
    · cases ha
  case lreturn =>
    dsimp only at ha hck hd
    have hlen := beqE hck
    subst hlen
    split at ha
    · split at ha
      · rename_i hm
        cases ha
        exact W.lret hx hb (hrt.trans hm) (fun t ht _ => ⟨rfl, hq t ht⟩) hf hd hlk
      · cases ha
    · cases ha
  case areturn =>
    dsimp only at ha hck hd
    rw [Bool.and_eq_true] at hck
    have hlen := beqE hck.1
    have hck2 := hck.2
    subst hlen
    have hret : (∃ n, mRet k = some (.object n)) ∨ ∃ t, mRet k = some (.array t) := by
      split at hck2
      · exact Or.inl ⟨_, ‹_›⟩
      · exact Or.inr ⟨_, ‹_›⟩
      · cases hck2
    split at ha
    · rename_i v
      split at ha
      · rename_i hA
        cases ha
        have hA2 : rv g v = .null ∨ ∃ a, rv g v = .ref a := by
          cases v <;> first | (cases hA; done) | exact Or.inl rfl | exact Or.inr ⟨_, rfl⟩
        rcases hret with ⟨n, hn⟩ | ⟨t, ht⟩
        · exact W.aret hx hb (hrt.trans hn) (Or.inl ⟨n, rfl⟩) hA2 (fun t ht _ => ⟨rfl, hq t ht⟩) hf hd hlk
        · exact W.aret hx hb (hrt.trans ht) (Or.inr ⟨t, rfl⟩) hA2 (fun t ht _ => ⟨rfl, hq t ht⟩) hf hd hlk
      · cases ha
    · cases ha
  case return_ =>
    dsimp only at ha hck hd
    rw [Bool.and_eq_true] at hck
    have hlen := beqE hck.1
    have hck2 := hck.2
    subst hlen
    have hv : mRet k = none := by
      split at hck2
      · assumption
      · cases hck2
    split at ha
    · cases ha
      exact W.vret hx hb (hrt.trans hv) (fun t ht _ => ⟨rfl, hq t ht⟩) hf hd hlk
    · cases ha
  case invokestatic n =>
    exfalso
    dsimp only at ha
    cases hb9 : Nat.beq b 9001 <;> cases hb8 : Nat.beq b 9002 <;> simp only [hb9, hb8, cond_true, cond_false] at ha <;> (repeat' (first | (cases ha; done) | unfold mmx at ha | unfold nx at ha | unfold cal at ha | split at ha))
  case invokespecial n =>
    exfalso
    dsimp only at ha
    cases hb9 : Nat.beq b 9999 <;> simp only [hb9, cond_true, cond_false] at ha <;> (repeat' (first | (cases ha; done) | unfold nx at ha | unfold cal at ha | split at ha))
  case ifCond cn off => cases cn <;> (exfalso; dsimp only at ha; unfold brI at ha; split at ha <;> first | (cases ha; done) | (unfold nx at ha; cases ha))
  case if_icmp cn off => cases cn <;> (exfalso; dsimp only at ha; unfold brII at ha; split at ha <;> first | (cases ha; done) | (unfold nx at ha; cases ha))
  all_goals first
    | (cases ha; done)
    | (exfalso
       dsimp only at ha
       first | unfold loI at ha | unfold loL at ha | unfold loA at ha | unfold soI at ha | unfold soL at ha | unfold soA at ha | unfold bin at ha | unfold binL at ha | unfold shL at ha | unfold un1 at ha | unfold brI at ha | unfold brII at ha | unfold ald at ha | unfold ast at ha | unfold newA at ha | skip
       repeat' (first | (cases ha; done) | unfold nx at ha | unfold cal at ha | split at ha | dsimp only at ha))
    | skip
def Pcn (g : Nat × Nat × Nat) (Ls : Nat) (xs : Nat → Int32) (D : va_G) (cA : Nat → ClassId) (as : List Value) (h : AH) : Array Value → State → Prop := va_Pc (as.map (rv g)) (conP g Ls xs D cA h)
theorem conOf {n : Nat} (ih : SimW n) {d k : Nat} {as : List Value} {h h' : AH} {r : Option Value} (hk : k < 200) (hlen : (exL as).length ≤ mMax k) (he : exec n d k 0 (ini (mMax k) as) [] h = some (r, h')) (l : Launch) (g : Nat × Nat × Nat) (Ls : Nat) (xs : Nat → Int32) (D : va_G) (cA : Nat → ClassId) :
    Met l (mName k) (wsM k) (rmD d (AN h' - AN h) (AT h' - AT h)) (Pcn g Ls xs D cA as h) (conQ g Ls xs D cA r h') (AN h' - AN h) (AT h' - AT h) (Aw g) := by
  refine Met.ofW (cc := mCode k) (maxL := mMax k) (ret := mRet k) (mFacts hk).2.2.2 rfl ?_
  intro p e s m args' below meth c s₁ B hml hv
  obtain ⟨rfl, hW, hR⟩ := hv
  have hts := atoms_spec (ws := wsM k) B.pre
  have C : Cx p s m (as.map (rv g)).toArray meth c k g Ls xs D cA := ⟨B.exec, B.bytes, hml, by rw [(mFacts hk).2.1]; exact findClass_of_methodNamed B.named, fun w hw => hts w (List.mem_cons_of_mem _ hw), fun z => (name_of_methodNamed B.named B.method).1.trans z, B.returns, B.notSynchronized, hW⟩
  have hl := lv_entry (as.map (rv g)) (n := mMax k) (by rw [exL_len]; exact hlen)
  rw [lg_entry_eq]
  have hL := LH.entry g as hlen hl
  refine ih d k 0 _ [] h r h' he (by omega) p l e (headSpec (wsM k) (rmD d (AN h' - AN h) (AT h' - AT h))).room s m _ below meth c s.heap [] 0 0 _ _ g Ls xs D cA C hR hL (Nat.le_refl _) (Nat.le_refl _) (by rw [Nat.zero_add]; exact Nat.le_refl _) (by rw [Nat.zero_add]; exact Nat.le_refl _) ?_
  intro pc1 op1 L1 S1 ls1 H1 locs1 ho ha hR1
  rw [Nat.zero_add, Nat.zero_add]
  exact ret_fin (by omega) ho ha C hR1
theorem take_drop_map {g : Nat × Nat × Nat} {S S1 : List Value} {c : Nat} {i : Nat} (hd : S.drop c = .ref i :: S1) : S.map (rv g) = ((S.take c).reverse.map (rv g)).reverse ++ .ref (adr g i) :: S1.map (rv g) ∧ (S.take c).reverse.length = c := by
  constructor
  · rw [← List.map_reverse, List.reverse_reverse]
    conv => lhs; rw [← List.take_append_drop c S, hd, List.map_append, List.map_cons]
    rfl
  · have h1 : (S.drop c).length = S1.length + 1 := by rw [hd]; rfl
    rw [List.length_drop] at h1
    rw [List.length_reverse, List.length_take]
    omega
theorem cal_inv {j : Nat} {a r : List Value} {q : Nat × List Value × List Value} (e : cal j a r = some (.inr (.inl q))) : q = (j, a, r) ∧ catOK r = true ∧ (exL a).length ≤ mMax j := by
  unfold cal at e
  split at e
  · rename_i hc
    rw [Bool.and_eq_true] at hc
    cases e
    exact ⟨rfl, hc.1, Nat.le_of_ble_eq_true hc.2⟩
  · cases e
theorem vT_lt {own idx ci j : Nat} (hv : vT.any (fun r => Nat.beq r.2.2.2.1 own && Nat.beq r.2.2.2.2.1 idx && Nat.beq r.2.2.2.2.2.1 ci && Nat.beq r.2.2.2.2.2.2 j) = true) : ci < 13 ∧ j < 200 := by
  obtain ⟨r, hr, hv⟩ := List.any_eq_true.mp hv
  simp only [Bool.and_eq_true] at hv
  have hf2 := List.all_eq_true.mp vT_ok r hr
  simp only [vChk, Bool.and_eq_true, decide_eq_true_eq] at hf2
  rw [beqE hv.1.2, beqE hv.2] at hf2
  exact ⟨hf2.2, hf2.1.2⟩
theorem uT_lt {own idx ci j : Nat} (hv : uT.any (fun r => Nat.beq (r.getD 5 0) own && Nat.beq (r.getD 6 0) idx && Nat.beq (r.getD 7 0) ci && Nat.beq (r.getD 8 0) j) = true) : ci < 13 ∧ j < 200 := by
  obtain ⟨r, hr, hv⟩ := List.any_eq_true.mp hv
  simp only [Bool.and_eq_true] at hv
  have hf2 := List.all_eq_true.mp uT_ok r hr
  simp only [uChk, Bool.and_eq_true, decide_eq_true_eq] at hf2
  rw [beqE hv.1.2, beqE hv.2] at hf2
  exact ⟨hf2.1.2, hf2.1.1.1.2⟩
theorem sT_lt {own idx j : Nat} (hv : (sT.any (fun r => Nat.beq r.2.2.1 own && Nat.beq r.2.2.2.1 idx && Nat.beq r.2.2.2.2 j) || snT.any (fun r => Nat.beq r.2.2.1 own && Nat.beq r.2.2.2.1 idx && Nat.beq r.2.2.2.2 j)) = true) : j < 200 := by
  rcases Bool.or_eq_true _ _ |>.mp hv with hv | hv
  · obtain ⟨r, hr, hv⟩ := List.any_eq_true.mp hv
    simp only [Bool.and_eq_true] at hv
    have hf2 := List.all_eq_true.mp sT_ok r hr
    simp only [sChk, Bool.and_eq_true, decide_eq_true_eq] at hf2
    rw [beqE hv.2] at hf2
    exact hf2.2
  · obtain ⟨r, hr, hv⟩ := List.any_eq_true.mp hv
    simp only [Bool.and_eq_true] at hv
    have hf2 := List.all_eq_true.mp snT_ok r hr
    simp only [snChk, Bool.and_eq_true, decide_eq_true_eq] at hf2
    rw [beqE hv.2] at hf2
    exact hf2.2
theorem cT_lt {own idx j : Nat} (hv : (cT.any (fun r => Nat.beq r.2.2.1 own && Nat.beq r.2.2.2.1 idx && Nat.beq r.2.2.2.2 j) || cnT.any (fun r => Nat.beq r.2.2.1 own && Nat.beq r.2.2.2.1 idx && Nat.beq r.2.2.2.2 j)) = true) : j < 200 := by
  rcases Bool.or_eq_true _ _ |>.mp hv with hv | hv
  · obtain ⟨r, hr, hv⟩ := List.any_eq_true.mp hv
    simp only [Bool.and_eq_true] at hv
    have hf2 := List.all_eq_true.mp cT_ok r hr
    simp only [cChk, Bool.and_eq_true, decide_eq_true_eq] at hf2
    rw [beqE hv.2] at hf2
    exact hf2.1.1.2
  · obtain ⟨r, hr, hv⟩ := List.any_eq_true.mp hv
    simp only [Bool.and_eq_true] at hv
    have hf2 := List.all_eq_true.mp cnT_ok r hr
    simp only [cnChk, Bool.and_eq_true, decide_eq_true_eq] at hf2
    rw [beqE hv.2] at hf2
    exact hf2.1.1.2
theorem callW {n : Nat} (ih : SimW n) {d k pc : Nat} {op : OpE} {L S : List Value} {h : AH} {q : Nat × List Value × List Value} {r1 : Option Value} {h1 : AH} (hk : k < 203) (hop : opAt k pc = some op) (ha : act k pc op L S h = some (.inr (.inl q))) (he : exec n d q.1 0 (ini (mMax q.1) q.2.1) [] h = some (r1, h1))
    {p : Program} {l : Launch} {e : Env} {R : Room} {s : State} {m : MethodId} {args : Array Value} {below : List Frame} {meth : Method} {c : Code} {H : Heap} {locs : List Loc} {cells slots : Nat} {ls : Array Slot} {g : Nat × Nat × Nat} {Ls : Nat} {xs : Nat → Int32} {D : va_G} {cA : Nat → ClassId}
    (C : Cx p s m args meth c k g Ls xs D cA) (hR : Rel g Ls xs D cA s.heap h H locs) (hl : LH g ls (mMax k) L) (hfr : d + 2 ≤ R.frames) (hlo : 60 * (d + 2) ≤ R.locals) (hc : cells + (AN h1 - AN h) ≤ R.cells) (hs : slots + (AT h1 - AT h) ≤ R.slots) :
    va_Run p l e R s m args below meth c H locs cells slots (AN h1 - AN h) (AT h1 - AT h) (F0 m pc ls (S.map (rv g))) (q.2.2.map (rv g)) (conQ g Ls xs D cA r1 h1 (q.2.1.map (rv g)).toArray) (Aw g) := by
  obtain ⟨hd, hck⟩ := op_ok hk hop
  obtain ⟨len, ins, vi, vl, b, c2, lst⟩ := op
  have hW := C.2.2.2.2.2.2.2.2
  have hpre : ∀ (as : List Value) (U : State), U.heap = H → s.WarmedH U.vm → Pcn g Ls xs D cA as h (as.map (rv g)).toArray U := fun as U hU hWm => by
    refine ⟨rfl, hW.warm hWm (by rw [hU]; exact hR.2.2.1.1) (by rw [hU]; exact hR.2.2.1.2.1), ?_⟩
    rw [hU]
    exact hR.self
  have hbl : ∀ as, FrameBlind (Pcn g Ls xs D cA as h) := fun as a U gg mk z => ⟨z.1, z.2.1.calling gg mk a, z.2.2⟩
  unfold chk at hck
  unfold act at ha
  cases ins
  case invokevirtual n =>
    dsimp only at ha hck hd
    rw [Bool.and_eq_true] at hck
    have hlen := beqE hck.1
    subst hlen
    split at ha
    · rename_i i S1 hdrop
      split at ha
      · rename_i j hlk
        obtain ⟨rfl, hcat, hex⟩ := cal_inv ha
        have v1 := List.all_eq_true.mp hck.2 _ (lookup_in hlk)
        simp only [Bool.and_eq_true] at v1
        obtain ⟨t1, t2⟩ := take_drop_map (g := g) hdrop
        have hn : ((S.take c2).reverse.map (rv g)).length = mArg j := by rw [List.length_map, t2, beqE v1.1]
        have hcat2 : ((S1.map (rv g)).map fun v => v.category).sum ≤ 8 := by rw [rv_map_cat]; exact catOK_le hcat
        rcases Bool.or_eq_true _ _ |>.mp v1.2 with v2 | v2
        · obtain ⟨h13, hj⟩ := vT_lt v2
          have h2 : 2 ≤ i := hR.big (by omega)
          have hat := hR.at h2 (by omega)
          rw [ce_obj h13] at hat
          have hrecv := va_recv hW.1 hR.2.1 (clsP _ h13).1 hat
          have hM := conOf ih hj hex he l g Ls xs D cA
          rw [t1]
          exact runV C hM v2 hfr hlo (hbl _) hrecv (hpre _) hn hl.1 hcat2 hd ⟨hc, hs⟩
        · obtain ⟨h13, hj⟩ := uT_lt v2
          have h2 : 2 ≤ i := hR.big (by omega)
          have hat := hR.at h2 (by omega)
          rw [ce_obj h13] at hat
          have hrecv := va_recv hW.1 hR.2.1 (clsP _ h13).1 hat
          have hM := conOf ih hj hex he l g Ls xs D cA
          rw [t1]
          exact runU C hM v2 hfr hlo (hbl _) hrecv (hpre _) hn hl.1 hcat2 hd ⟨hc, hs⟩
      · cases ha
    · cases ha
  case invokespecial n =>
    dsimp only at ha hck hd
    rw [Bool.and_eq_true] at hck
    have hlen := beqE hck.1
    subst hlen
    split at ha
    · rename_i i S1 hdrop
      cases hb9 : Nat.beq b 9999 with
      | true =>
        rw [hb9, cond_true] at ha
        split at ha <;> cases ha
      | false =>
        rw [hb9, cond_false] at ha
        obtain ⟨rfl, hcat, hex⟩ := cal_inv ha
        have v1 := hck.2
        rw [hb9, cond_false, Bool.and_eq_true] at v1
        obtain ⟨t1, t2⟩ := take_drop_map (g := g) hdrop
        have hn : ((S.take c2).reverse.map (rv g)).length = mArg b := by rw [List.length_map, t2, beqE v1.1]
        have hcat2 : ((S1.map (rv g)).map fun v => v.category).sum ≤ 8 := by rw [rv_map_cat]; exact catOK_le hcat
        have hj := cT_lt v1.2
        have hM := conOf ih hj hex he l g Ls xs D cA
        rw [t1]
        exact runI C hM v1.2 hfr hlo (hbl _) (hpre _) hn hl.1 hcat2 hd ⟨hc, hs⟩
    · cases ha
  case invokestatic n =>
    dsimp only at ha hck hd
    rw [Bool.and_eq_true] at hck
    have hlen := beqE hck.1
    subst hlen
    have v1 := hck.2
    cases hb9 : Nat.beq b 9001 with
    | true =>
      rw [hb9, cond_true] at ha
      unfold mmx at ha
      split at ha
      · split at ha <;> cases ha
      · cases ha
    | false =>
      rw [hb9, cond_false] at ha v1
      cases hb8 : Nat.beq b 9002 with
      | true =>
        rw [hb8, cond_true] at ha
        unfold mmx at ha
        split at ha
        · split at ha <;> cases ha
        · cases ha
      | false =>
        rw [hb8, cond_false] at ha v1
        rw [Bool.and_eq_true] at v1
        by_cases hlen3 : Nat.ble c2 S.length = true
        case neg => rw [if_neg hlen3] at ha; cases ha
        rw [if_pos hlen3] at ha
        have hlen2 := Nat.le_of_ble_eq_true hlen3
        obtain ⟨rfl, hcat, hex⟩ := cal_inv ha
        have hj := sT_lt v1.2
        have hM := conOf ih hj hex he l g Ls xs D cA
        have hcat2 : (((S.drop c2).map (rv g)).map fun v => v.category).sum ≤ 8 := by rw [rv_map_cat]; exact catOK_le hcat
        have t1 : S.map (rv g) = ((S.take c2).reverse.map (rv g)).reverse ++ (S.drop c2).map (rv g) := by
          rw [← List.map_reverse, List.reverse_reverse, ← List.map_append, List.take_append_drop]
        have hn : ((S.take c2).reverse.map (rv g)).length = mArg b := by
          rw [List.length_map, List.length_reverse, List.length_take, beqE v1.1]
          omega
        rw [t1]
        exact runS C hM v1.2 hfr hlo (hbl _) (hpre _) hn hl.1 hcat2 hd ⟨hc, hs⟩
  case ifCond cn off => cases cn <;> (exfalso; dsimp only at ha; unfold brI at ha; split at ha <;> first | (cases ha; done) | (unfold nx at ha; cases ha))
  case if_icmp cn off => cases cn <;> (exfalso; dsimp only at ha; unfold brII at ha; split at ha <;> first | (cases ha; done) | (unfold nx at ha; cases ha))
  all_goals first
    | (cases ha; done)
    | (exfalso
       dsimp only at ha
       first | unfold loI at ha | unfold loL at ha | unfold loA at ha | unfold soI at ha | unfold soL at ha | unfold soA at ha | unfold bin at ha | unfold binL at ha | unfold shL at ha | unfold un1 at ha | unfold brI at ha | unfold brII at ha | unfold ald at ha | unfold ast at ha | unfold newA at ha | unfold retI at ha | skip
       repeat' (first | (cases ha; done) | unfold nx at ha | unfold cal at ha | split at ha | dsimp only at ha))
theorem simW : ∀ n, SimW n
  | 0 => fun d k pc L S h r h' he => by cases he
  | n + 1 => by
    have ih := simW n
    intro d k pc L S h r h' he hk p l e R s m args below meth c H locs cells slots Q ls g Ls xs D cA C hR hl hfr hlo hc hs hE
    unfold exec at he
    split at he
    · cases he
    · rename_i op hop
      split at he
      · cases he
      · rename_i q ha
        obtain ⟨pc1, L1, S1, h1⟩ := q
        obtain ⟨m1, m2⟩ := act_mono ha
        obtain ⟨m3, m4⟩ := exec_mono _ _ _ _ _ _ _ _ he
        dsimp only at he m3 m4
        refine stepW C hk hop ha hR hl (by omega) (by omega) (by omega) (by omega) (fun H1 locs1 ls1 hR1 hl1 => ?_)
        have e1 : cells + (AN h1 - AN h) + (AN h' - AN h1) = cells + (AN h' - AN h) := by omega
        have e2 : slots + (AT h1 - AT h) + (AT h' - AT h1) = slots + (AT h' - AT h) := by omega
        refine ih d k pc1 L1 S1 h1 r h' he hk p l e R s m args below meth c H1 locs1 _ _ Q ls1 g Ls xs D cA C hR1 hl1 hfr hlo (by omega) (by omega) ?_
        intro pc2 op2 L2 S2 ls2 H2 locs2 ho2 ha2 hR2
        rw [e1, e2]
        exact hE pc2 op2 L2 S2 ls2 H2 locs2 ho2 ha2 hR2
      · rename_i v ha
        cases he
        have := hE pc op L S ls H locs hop ha hR
        simpa only [Nat.sub_self, Nat.add_zero] using this
      · rename_i q ha
        split at he
        · cases he
        · rename_i d'
          split at he
          · cases he
          · rename_i r1 he1
            obtain ⟨v1, h1⟩ := r1
            obtain ⟨m1, m2⟩ := exec_mono _ _ _ _ _ _ _ _ he1
            obtain ⟨m3, m4⟩ := exec_mono _ _ _ _ _ _ _ _ he
            dsimp only at he m1 m2 m3 m4
            have hr := callW ih hk hop ha he1 C hR hl (by omega) (by omega) (by omega) (by omega) (l := l) (e := e) (below := below) (cells := cells) (slots := slots) (R := R)
            have e1 : cells + (AN h1 - AN h) + (AN h' - AN h1) = cells + (AN h' - AN h) := by omega
            have e2 : slots + (AT h1 - AT h) + (AT h' - AT h1) = slots + (AT h' - AT h) := by omega
            intro T hT X
            obtain ⟨v, st₀, t, T', L', h0, X', hL, g1, g2, ⟨hv, hRt⟩, st⟩ := hr T hT X
            have hv2 : v = v1.map (rv g) := Outcome.returned.inj hv
            subst hv2
            have hR2 : Rel g Ls xs D cA s.heap h1 T'.heap (locs ++ L') := by
              refine hR.next ?_ hL
              rw [← h0, g1]
              exact hRt
            have K := ih (d' + 1) k (pc + 3) L (v1.toList ++ q.2.2) h1 r h' he hk p l e R s m args below meth c T'.heap (locs ++ L') (cells + (AN h1 - AN h)) (slots + (AT h1 - AT h)) Q ls g Ls xs D cA C hR2 hl hfr hlo (by omega) (by omega) (fun pc2 op2 L2 S2 ls2 H2 locs2 ho2 ha2 hR3 => by
              rw [e1, e2]
              exact hE pc2 op2 L2 S2 ls2 H2 locs2 ho2 ha2 hR3)
            obtain ⟨t2, a1, b1⟩ := K T' rfl X'
            refine ⟨t2, st t2 ?_, b1⟩
            have es : (v1.map (rv g)).toList ++ q.2.2.map (rv g) = (v1.toList ++ q.2.2).map (rv g) := by
              rw [List.map_append]
              cases v1 <;> rfl
            rw [es]
            exact a1
end
section
/-! THE CLAIM OUT OF A STATEMENT OF THE ABSTRACT MACHINE ALONE -/
def h00 (Ls : Nat) (xs : Nat → Int32) : AH := ((2, 0), fun i => if i = 0 then (20, Ls) else if i = 1 then (20, 11) else (99, 0), fun i j => if i = 0 then xs j else if i = 1 then fac j else 0, fun _ _ => 0, fun _ _ => none)
/-- the abstract law: on every script it answers 1, in its room -/
def AbsLaw : Prop := ∀ (Ls : Nat) (xs : Nat → Int32), Ls ≤ 2560 → ∃ (n : Nat) (h' : AH), exec n 1000 202 0 (ini 4 [.ref 0]) [] (h00 Ls xs) = some (some (.int 1), h') ∧ AN h' ≤ 600002 ∧ AT h' ≤ 7302250
theorem mem_X {i : Nat} {w : Jvm.Cond} (h : tblX[i]? = some w) : w ∈ tblX := List.mem_of_getElem? h
theorem nest_in : ∀ e ∈ snT ++ cnT, (Jvm.Cond.methodLinkNest (rcl e.2.2.1) e.2.2.2.1 (mName e.2.2.2.2) "CutsOrFast") ∈ tblX := by
  intro e he
  rcases List.mem_append.mp he with he | he
  · have hf := List.all_eq_true.mp snT_ok e he
    simp only [snChk, Bool.and_eq_true, decide_eq_true_eq] at hf
    exact mem_X hf.1.1
  · have hf := List.all_eq_true.mp cnT_ok e he
    simp only [cnChk, Bool.and_eq_true, decide_eq_true_eq] at hf
    exact mem_X hf.1.1.1.1
theorem sel_lo {s : State} {args : Array Value} (h1 : (Cond.instantiable "CutsOrFast$Dear" 2).before args s = true) (h2 : (Cond.instantiable "CutsOrFast$Near" 2).before args s = true) (hpriv : (Cond.privateMethod ⟨"CutsOrFast$Near", "lengthOver", "(LCutsOrFast$Net;I)I"⟩).before args s = true) (hinst : (Cond.instanceMethod ⟨"CutsOrFast$Near", "lengthOver", "(LCutsOrFast$Net;I)I"⟩).before args s = true) : selLO.before args s = true := by
  obtain ⟨c, k, hc, hk, -, -, -, -⟩ := Cond.instantiable_spec h1
  obtain ⟨c2, k2, hc2, hk2, -, hniab, -, -⟩ := Cond.instantiable_spec h2
  have hni : k2.isInterface = false := (Bool.or_eq_false_iff.mp hniab).1
  obtain ⟨mk, methM, hnamed, hmethM, -, -⟩ := Cond.instanceMethod_spec hinst
  have hfound : s.methodFound? "CutsOrFast$Near" "lengthOver" "(LCutsOrFast$Net;I)I" = some mk := State.methodFound?_of_named hnamed ⟨by decide, by decide⟩
  have hcls : mk.cls = c2 := Option.some.inj ((findClass_of_methodNamed hnamed).symm.trans hc2)
  have hsel : selectMethod {} s.vm c mk = .method mk := selectMethod_private hmethM (Cond.privateMethod_at hpriv mk methM hnamed hmethM)
  unfold selLO
  simp only [Cond.before, Cond.holds, Cond.value, hc, hfound, hnamed, hsel, hcls, hk2]
  simp; exact hni
theorem hts_X {s : State} {args : Array Value} (h : ∀ w ∈ lw_tbl, w.before args s = true) : ∀ w ∈ tblX, w.before args s = true := by
  intro w hw
  unfold tblX at hw
  rcases List.mem_append.mp hw with hw | hw
  · exact h w hw
  · have e : w = selLO := by simpa using hw
    subst e
    exact sel_lo (h _ (List.mem_of_getElem? (i := 629) (by decide +kernel))) (h _ (List.mem_of_getElem? (i := 616) (by decide +kernel))) (h _ (List.mem_of_getElem? (i := 726) (by decide +kernel))) (h _ (List.mem_of_getElem? (i := 727) (by decide +kernel)))
def instPos : List Nat := [606, 638, 629, 190, 616, 91, 74, 644, 147, 177, 122, 66, 801]
theorem inst_ok : ∀ ci, ci < 13 → tblX[instPos.getD ci 0]? = some (.instantiable (rcl ci) (nF ci)) := by decide +kernel
theorem arr_K {s : State} {args : Array Value} {ty : FieldType} (hp : ∀ C, ty ≠ .object C) (h : (Cond.arrayClass ty).before args s = true) : ∃ c : ClassId, ArrOfT s c ty ∧ va_RA s c ty := by
  obtain ⟨c, k, comp, h1, h2, h3⟩ := Cond.arrayClass_spec h
  refine ⟨c, fun n z => ⟨fun q hq => (by cases hq), k, h2, comp, h3⟩, ?_⟩
  unfold va_RA
  cases ty <;> first | exact absurd rfl (hp _) | exact h1
theorem arr_KO {s : State} {args : Array Value} (h : (Cond.arrayOver (.object "CutsOrFast$Player")).before args s = true) : ∃ c : ClassId, ArrOfT s c (.object "CutsOrFast$Player") ∧ va_RA s c (.object "CutsOrFast$Player") := by
  obtain ⟨comp, c, k, h1, h2, h3, h4, h5⟩ := Cond.arrayOver_spec h
  exact ⟨c, fun n z => ⟨fun q hq => (by cases hq), k, h3, comp, h4⟩, k, comp, h3, h4, h1, h5⟩
theorem fac_el {s : State} {args : Array Value} (h : (Jvm.Cond.and given_1 narrow_1).before args s = true) : ∀ j : Nat, j < 11 → (Term.elem (.static "CutsOrFast" "FACTORIALS" "[I") (.int (Int32.ofNat j))).eval args s none [] s = some (.int (fac j)) := by
  have hs := flat_of_before _ h
  intro j hj
  match j, hj with
  | 0, _ => exact va_eqt (hs (.eq (.elem (.static "CutsOrFast" "FACTORIALS" "[I") (.int 0)) (.int 1)) (by decide +kernel))
  | 1, _ => exact va_eqt (hs (.eq (.elem (.static "CutsOrFast" "FACTORIALS" "[I") (.int 1)) (.int 1)) (by decide +kernel))
  | 2, _ => exact va_eqt (hs (.eq (.elem (.static "CutsOrFast" "FACTORIALS" "[I") (.int 2)) (.int 2)) (by decide +kernel))
  | 3, _ => exact va_eqt (hs (.eq (.elem (.static "CutsOrFast" "FACTORIALS" "[I") (.int 3)) (.int 6)) (by decide +kernel))
  | 4, _ => exact va_eqt (hs (.eq (.elem (.static "CutsOrFast" "FACTORIALS" "[I") (.int 4)) (.int 24)) (by decide +kernel))
  | 5, _ => exact va_eqt (hs (.eq (.elem (.static "CutsOrFast" "FACTORIALS" "[I") (.int 5)) (.int 120)) (by decide +kernel))
  | 6, _ => exact va_eqt (hs (.eq (.elem (.static "CutsOrFast" "FACTORIALS" "[I") (.int 6)) (.int 720)) (by decide +kernel))
  | 7, _ => exact va_eqt (hs (.eq (.elem (.static "CutsOrFast" "FACTORIALS" "[I") (.int 7)) (.int 5040)) (by decide +kernel))
  | 8, _ => exact va_eqt (hs (.eq (.elem (.static "CutsOrFast" "FACTORIALS" "[I") (.int 8)) (.int 40320)) (by decide +kernel))
  | 9, _ => exact va_eqt (hs (.eq (.elem (.static "CutsOrFast" "FACTORIALS" "[I") (.int 9)) (.int 362880)) (by decide +kernel))
  | 10, _ => exact va_eqt (hs (.eq (.elem (.static "CutsOrFast" "FACTORIALS" "[I") (.int 10)) (.int 3628800)) (by decide +kernel))
theorem castN_in : ∀ q ∈ castN, (Jvm.Cond.not (.castable (rcl q.1) (rcl q.2))) ∈ flatC (Jvm.Cond.and given_1 narrow_1) := by decide +kernel
theorem castY_in : ∀ q ∈ castY, (Jvm.Cond.castable (rcl q.1) (rcl q.2)) ∈ tblX := by decide +kernel
/-! THE CLAIM OUT OF ONE WALK OF THE LAW'S BODY. Your part is whole_start (and what it stands on); all else here is the same for every law, but numbers. -/
def R_law : String := "CutsOrFastLaw"
def lw_P (b : Addr) (xs : List Int32) (args : Array Value) (s : State) : Prop := args = #[.ref b] ∧ s.IntsAt b xs ∧ xs.length ≤ 2560 ∧ (Jvm.Cond.and given_1 narrow_1).before args s = true
def lw_Q (_ : Array Value) (s : State) (o : Outcome) (t : State) : Prop := o = .returned (some (.int 1)) ∧ Framed s o t [] 600000 7302250
def lw_Z (below : List Frame) (a : Array Value) (s : State) : State → Prop := fun t => ∃ o, t.status = .running ∧ Ended t below o ∧ lw_Q a s o t
/-- the law's own end, with 1 on the stack, nothing written that was there before, its room as the claim has it -/
theorem lw_ret {p : Program} {l : Launch} {e : Env} {s : State} {m : MethodId} {below : List Frame} {meth : Method} {c : Code} {b : Nat} (hx : p.tables.exec = Jvm.exec) (hb : c.code = code) (hr : meth.sig.returnType = ret) (hlocks : meth.locks = false) {pc : Nat} {H : Heap} {ls : Array Slot} (hdg : decode code pc = .ok (.ireturn, 1)) : W p l e room_1 s m #[Value.ref b] below meth c H [] 600000 7302250 (lw_Z below #[Value.ref b] s) (F0 m pc ls [.int 1]) := by
  intro T hT X
  obtain ⟨fs, hret, hrun, hended, hW, hframe⟩ := X.leave (v := some (.int 1)) (hlocks := hlocks) (fun h => by rw [hr] at h; cases h)
  have hmeth' : T.vm.method? m = some meth := X.method'
  refine ⟨T.setFrames fs, ?_, .returned (some (.int 1)), hrun, hended, rfl, ⟨_, rfl⟩, hW, hframe⟩
  jvm_step X.here [X.here.top, hx, hb, hdg, hmeth', hr, ret, narrow_b1]
  (try refine ⟨rfl, ?_⟩); (try refine ⟨rfl, ?_⟩)
  first | (intro acts; rw [hret _ acts rfl rfl rfl]) | rw [hret _ _ rfl rfl rfl]
  exact Steps.refl _
/-- what holds at the law's entry: the machine, the code, the tables' words (any of lw_tbl by 'hts w (by decide +kernel)'), the script of L ints xs at the cell b, what the Statement gives of the start (any of its parts by flat_of_before) -/
def lw_At (p : Program) (s : State) (m : MethodId) (meth : Method) (c : Code) (b L : Nat) (xs : Nat → Int32) : Prop :=
  p.tables.exec = Jvm.exec ∧ c.code = code ∧ meth.sig.returnType = ret ∧ c.maxLocals = 4 ∧ s.vm.findClass R_law = some m.cls ∧ (∀ w ∈ lw_tbl, w.before #[Value.ref b] s = true) ∧ va_X b L xs s s.heap ∧ b < s.heap.size ∧ meth.locks = false ∧ (Jvm.Cond.and given_1 narrow_1).before #[Value.ref b] s = true
theorem whole_start_of (habs : AbsLaw) {p : Program} {e : Env} {s : State} {m : MethodId} {below : List Frame} {meth : Method} {c : Code} (l : Launch) {b L : Nat} {xs : Nat → Int32} (hL : L ≤ 2560) (C0 : lw_At p s m meth c b L xs) : W p l e room_1 s m #[Value.ref b] below meth c s.heap [] 0 0 (lw_Z below #[Value.ref b] s) (entryFrame m ([Value.ref b] : List Value).toArray 4) := by
  obtain ⟨hx, hb, hr, hml, hown, hts0, hX, hbl, hlocks, hgv⟩ := id C0
  have hts := hts_X hts0
  have hs := flat_of_before _ hgv
  -- the classes
  have hK1 : ∀ ci, ci < 13 → ∃ (c : ClassId) (iS : Nat → Nat), u_Kn s (rcl ci) (TT ci) (nF ci) c iS := fun ci hci => by
    obtain ⟨q1, q2, q3, q4⟩ := clsP ci hci
    exact u_known (ws := tblG) (fun w hw => hts w (List.mem_filter.mp hw).1) q2 (hts _ (mem_X (inst_ok ci hci)))
  have hK2 : ∀ ci, ∃ q : ClassId × (Nat → Nat), ci < 13 → u_Kn s (rcl ci) (TT ci) (nF ci) q.1 q.2 := fun ci => by
    by_cases hci : ci < 13
    · obtain ⟨c1, i1, h1⟩ := hK1 ci hci
      exact ⟨(c1, i1), fun _ => h1⟩
    · exact ⟨(0, fun _ => 0), fun z => absurd z hci⟩
  -- the arrays
  have ga : ∀ {ty}, (Jvm.Cond.arrayClass ty) ∈ tblG → (Cond.arrayClass ty).before #[Value.ref b] s = true := fun h => hts _ (List.mem_filter.mp h).1
  obtain ⟨a0, a0h⟩ := arr_K (fun C z => by cases z) (ga in_int)
  obtain ⟨a1, a1h⟩ := arr_K (fun C z => by cases z) (ga in_long)
  obtain ⟨a2, a2h⟩ := arr_K (fun C z => by cases z) (ga in_byte)
  obtain ⟨a3, a3h⟩ := arr_K (fun C z => by cases z) (ga in_boolean)
  have hAO := hts0 _ (List.mem_of_getElem? arrO_ok)
  obtain ⟨a4, a4h⟩ := arr_KO hAO
  generalize hcA : (fun t : Nat => if t = 0 then a0 else if t = 1 then a1 else if t = 2 then a2 else if t = 3 then a3 else a4) = cA
  have c0 : cA 0 = a0 := by rw [← hcA]; rfl
  have c1 : cA 1 = a1 := by rw [← hcA]; rfl
  have c2 : cA 2 = a2 := by rw [← hcA]; rfl
  have c3 : cA 3 = a3 := by rw [← hcA]; rfl
  have c4 : cA 4 = a4 := by rw [← hcA]; rfl
  generalize hD : ((fun ci => (Classical.choose (hK2 ci)).1, fun ci => (Classical.choose (hK2 ci)).2) : va_G) = D
  have hK : va_K D clsL (tyl cA) s := by
    refine ⟨fun k q hq => ?_, fun k q hq => ?_⟩
    · have hk : k < 13 := (List.getElem?_eq_some_iff.mp hq).1
      have e1 := (clsP k hk).1.symm.trans hq
      have e2 := Option.some.inj e1
      subst e2
      rw [← hD]
      exact Classical.choose_spec (hK2 k) hk
    · match k, hq with
      | 0, hq => cases hq; rw [c0]; exact a0h
      | 1, hq => cases hq; rw [c1]; exact a1h
      | 2, hq => cases hq; rw [c2]; exact a2h
      | 3, hq => cases hq; rw [c3]; exact a3h
      | 4, hq => cases hq; rw [c4]; exact a4h
      | k + 5, hq => simp [tyl] at hq
  -- the static row
  have hst := hts _ (List.mem_append_left _ (List.mem_of_getElem? lst_ok))
  have hini : (Cond.initialized "CutsOrFast").before #[Value.ref b] s = true := hts _ (mem_X (i := 50) (by decide +kernel))
  obtain ⟨fx, hfx, hT⟩ := va_Tof (A := fun q => s.heap.size ≤ q) (N := 11) (by decide) (hs (.arrayOf (.static "CutsOrFast" "FACTORIALS" "[I") .int) (by decide +kernel)) (va_eqt (hs (.eq (.length (.static "CutsOrFast" "FACTORIALS" "[I")) (.int 11)) (by decide +kernel))) (f := fun j => .int (fac j)) (fac_el hgv) (fun a ha => Nat.not_le.mpr ha)
  have hfl : fx < s.heap.size := by
    obtain ⟨cell, h1, -⟩ := hT
    exact (Array.getElem?_eq_some_iff.mp h1).1
  have hZ := va_Zref (A := fun q => s.heap.size ≤ q) hst hini hfx (fun a ha => Nat.not_le.mpr ha)
  generalize hg : ((s.heap.size, b, fx) : Nat × Nat × Nat) = g
  have g1 : g.1 = s.heap.size := by rw [← hg]
  have g2 : g.2.1 = b := by rw [← hg]
  have g3 : g.2.2 = fx := by rw [← hg]
  have hAw : Aw g = fun q => s.heap.size ≤ q := by
    unfold Aw
    rw [g1]
  have hW : WF g L xs D cA s := by
    refine ⟨hK, fun q hq => va_Nw.of rfl (hts _ (nest_in q hq)), fun q hq => va_Nw.of rfl (hts _ (castY_in q hq)), fun q hq => va_Nc.of (hs _ (castN_in q hq)), va_AO.of hAO, by rw [g3, hAw]; exact hZ, by rw [g2]; exact hX, by rw [g3, hAw]; exact hT, by rw [g1, g2]; exact hbl, by rw [g1, g3]; exact hfl, by rw [g1]; exact Nat.le_refl _⟩
  have C : Cx p s m #[Value.ref b] meth c 202 g L xs D cA := ⟨hx, hb, hml, hown, fun w hw => hts w (List.mem_filter.mp hw).1, fun z => absurd z (by decide +kernel), hr, hlocks, hW⟩
  have hR : Rel g L xs D cA s.heap (h00 L xs) s.heap [] := by
    refine ⟨Nat.le_refl _, fun k q hq => by simp [wsO, AN, h00] at hq, va_S.rf, by rw [g1]; rfl, fun i hi => ?_, rfl, rfl, fun _ _ => rfl, fun _ _ => rfl⟩
    have hi2 : 2 ≤ i := hi
    show (if i = 0 then (20, L) else if i = 1 then (20, 11) else ((99, 0) : Nat × Nat)).1 = 99
    rw [if_neg (by omega), if_neg (by omega)]
  obtain ⟨n, h', he, hn1, hn2⟩ := habs L xs hL
  have hl := lv_entry ([.ref b]) (n := 4) (Nat.le_of_ble_eq_true rfl)
  rw [lg_entry_eq]
  generalize (lg_sl ([.ref b]) ++ List.replicate (4 - (lg_sl ([.ref b])).length) Slot.unset).toArray = ls at hl ⊢
  have hl2 : lv_has ls 4 (lv_args 0 (([.ref 0] : List Value).map (rv g))) := by
    have e1 : ([.ref 0] : List Value).map (rv g) = [.ref b] := by
      show [Value.ref (adr g 0)] = [.ref b]
      unfold adr
      rw [if_pos rfl, g2]
    rw [e1]
    exact hl
  have hLH := LH.entry g [.ref 0] (n := 4) (by decide) hl2
  have eN : AN (h00 L xs) = 2 := rfl
  have eT : AT (h00 L xs) = 0 := rfl
  refine simW n 1000 202 0 _ [] (h00 L xs) _ h' he (by decide) p l e room_1 s m #[Value.ref b] below meth c s.heap [] 0 0 _ _ g L xs D cA C hR hLH (by decide) (by decide) (by rw [eN]; show 0 + (AN h' - 2) ≤ 600000; omega) (by rw [eT]; show 0 + (AT h' - 0) ≤ 7302250; omega) ?_
  intro pc1 op1 L1 S1 ls1 H1 locs1 ho ha hR1
  refine va_forget (fun q hq => by have := hR1.2.2.1.2.2 q hq; rw [hAw] at this; exact this) ?_
  refine W.widen (k := 600000) (n := 7302250) (by rw [eN]; omega) (by rw [eT]; omega) ?_
  obtain ⟨hd, hck⟩ := op_ok (by decide) ho
  obtain ⟨len, ins, vi, vl, b1, c2', lst⟩ := op1
  have hin : ins = .ireturn ∧ S1 = [.int 1] := by
    unfold act at ha
    cases ins
    case ireturn =>
      dsimp only at ha
      unfold retI at ha
      split at ha
      · split at ha
        · cases ha; exact ⟨rfl, rfl⟩
        · split at ha
          · cases ha; exact ⟨rfl, rfl⟩
          · cases ha
        · cases ha
      · cases ha
    case lreturn =>
      exfalso
      dsimp only at ha
      split at ha
      · split at ha <;> cases ha
      · cases ha
    case areturn =>
      exfalso
      dsimp only at ha
      split at ha
      · split at ha
        · rename_i v hA
          cases ha
          cases hA
        · cases ha
      · cases ha
    case return_ =>
      exfalso
      dsimp only at ha
      split at ha <;> cases ha
    case invokestatic n =>
      exfalso
      dsimp only at ha
      cases hb9 : Nat.beq b1 9001 <;> cases hb8 : Nat.beq b1 9002 <;> simp only [hb9, hb8, cond_true, cond_false] at ha <;> (repeat' (first | (cases ha; done) | unfold mmx at ha | unfold nx at ha | unfold cal at ha | split at ha))
    case invokespecial n =>
      exfalso
      dsimp only at ha
      cases hb9 : Nat.beq b1 9999 <;> simp only [hb9, cond_true, cond_false] at ha <;> (repeat' (first | (cases ha; done) | unfold nx at ha | unfold cal at ha | split at ha))
    case ifCond cn off => cases cn <;> (exfalso; dsimp only at ha; unfold brI at ha; split at ha <;> first | (cases ha; done) | (unfold nx at ha; cases ha))
    case if_icmp cn off => cases cn <;> (exfalso; dsimp only at ha; unfold brII at ha; split at ha <;> first | (cases ha; done) | (unfold nx at ha; cases ha))
    all_goals first
      | (cases ha; done)
      | (exfalso
         dsimp only at ha
         first | unfold loI at ha | unfold loL at ha | unfold loA at ha | unfold soI at ha | unfold soL at ha | unfold soA at ha | unfold bin at ha | unfold binL at ha | unfold shL at ha | unfold un1 at ha | unfold brI at ha | unfold brII at ha | unfold ald at ha | unfold ast at ha | unfold newA at ha | skip
         repeat' (first | (cases ha; done) | unfold nx at ha | unfold cal at ha | split at ha | dsimp only at ha))
  obtain ⟨rfl, rfl⟩ := hin
  have hlen : len = 1 := by
    unfold chk at hck
    exact beqE hck
  subst hlen
  exact lw_ret hx hb hr hlocks hd
end
section
/-! WHAT A RUN OF THE ABSTRACT MACHINE COMES TO: Wp; its rules -/
theorem exec_more : ∀ (n m d k pc : Nat) (L S : List Value) (h : AH) (r : Option Value × AH), exec n d k pc L S h = some r → exec (n + m) d k pc L S h = some r
  | 0, _, _, _, _, _, _, _, _, e => by cases e
  | n + 1, m, d, k, pc, L, S, h, r, e => by
    rw [Nat.add_right_comm]
    unfold exec at e ⊢
    split at e
    · cases e
    · split at e
      · cases e
      · rename_i op hop q hq
        exact exec_more n m _ _ _ _ _ _ _ e
      · exact e
      · split at e
        · cases e
        · split at e
          · cases e
          · rename_i r1 h1
            rw [exec_more n m _ _ _ _ _ _ _ h1]
            exact exec_more n m _ _ _ _ _ _ _ e
def Wp (d k pc : Nat) (L S : List Value) (h : AH) (Q : Option Value → AH → Prop) : Prop := ∃ (n : Nat) (r : Option Value) (h' : AH), exec n d k pc L S h = some (r, h') ∧ Q r h'
/-- a call -/
def Cl (d j : Nat) (args : List Value) (h : AH) (Q : Option Value → AH → Prop) : Prop := Wp d j 0 (ini (mMax j) args) [] h Q
theorem Wp.mono {d k pc : Nat} {L S : List Value} {h : AH} {Q Q' : Option Value → AH → Prop} (H : Wp d k pc L S h Q) (hQ : ∀ r h', Q r h' → Q' r h') : Wp d k pc L S h Q' := by
  obtain ⟨n, r, h', he, hq⟩ := H
  exact ⟨n, r, h', he, hQ r h' hq⟩
theorem Cl.mono {d j : Nat} {args : List Value} {h : AH} {Q Q' : Option Value → AH → Prop} (H : Cl d j args h Q) (hQ : ∀ r h', Q r h' → Q' r h') : Cl d j args h Q' := Wp.mono H hQ
theorem Wp.step {d k pc : Nat} {L S : List Value} {h : AH} {Q : Option Value → AH → Prop} {op : OpE} {pc' : Nat} {L' S' : List Value} {h' : AH} (ho : opAt k pc = some op) (ha : act k pc op L S h = some (.inl (pc', L', S', h'))) (K : Wp d k pc' L' S' h' Q) : Wp d k pc L S h Q := by
  obtain ⟨n, r, h2, he, hq⟩ := K
  refine ⟨n + 1, r, h2, ?_, hq⟩
  unfold exec
  simp only [ho, ha]
  exact he
theorem Wp.ret {d k pc : Nat} {L S : List Value} {h : AH} {Q : Option Value → AH → Prop} {op : OpE} {r : Option Value} (ho : opAt k pc = some op) (ha : act k pc op L S h = some (.inr (.inr r))) (K : Q r h) : Wp d k pc L S h Q := by
  refine ⟨1, r, h, ?_, K⟩
  unfold exec
  simp only [ho, ha]
theorem Wp.call {d k pc : Nat} {L S : List Value} {h : AH} {Q : Option Value → AH → Prop} {op : OpE} {j : Nat} {as rest : List Value} (ho : opAt k pc = some op) (ha : act k pc op L S h = some (.inr (.inl (j, as, rest)))) (K : Cl d j as h (fun r h1 => Wp (d + 1) k (pc + 3) L (r.toList ++ rest) h1 Q)) : Wp (d + 1) k pc L S h Q := by
  obtain ⟨n, r, h1, he, n2, r2, h2, he2, hq⟩ := K
  refine ⟨n + n2 + 1, r2, h2, ?_, hq⟩
  unfold exec
  simp only [ho, ha]
  rw [exec_more n n2 _ _ _ _ _ _ _ he]
  dsimp only
  rw [Nat.add_comm]
  exact exec_more n2 n _ _ _ _ _ _ _ he2
theorem Wp.callI {d k pc pc' : Nat} {L S : List Value} {h : AH} {Q : Option Value → AH → Prop} {op : OpE} {j : Nat} {as rest : List Value} (ho : opAt k pc = some op) (ha : act k pc op L S h = some (.inr (.inl (j, as, rest)))) (hp : pc + 3 = pc') (K : Cl d j as h (fun r h1 => ∃ x : Int32, r = some (.int x) ∧ Wp (d + 1) k pc' L (.int x :: rest) h1 Q)) : Wp (d + 1) k pc L S h Q := by
  refine Wp.call ho ha (K.mono ?_)
  rintro _ h1 ⟨x, rfl, K⟩
  rw [hp]
  exact K
theorem Wp.callL {d k pc pc' : Nat} {L S : List Value} {h : AH} {Q : Option Value → AH → Prop} {op : OpE} {j : Nat} {as rest : List Value} (ho : opAt k pc = some op) (ha : act k pc op L S h = some (.inr (.inl (j, as, rest)))) (hp : pc + 3 = pc') (K : Cl d j as h (fun r h1 => ∃ x : Int64, r = some (.long x) ∧ Wp (d + 1) k pc' L (.long x :: rest) h1 Q)) : Wp (d + 1) k pc L S h Q := by
  refine Wp.call ho ha (K.mono ?_)
  rintro _ h1 ⟨x, rfl, K⟩
  rw [hp]
  exact K
theorem Wp.callV {d k pc pc' : Nat} {L S : List Value} {h : AH} {Q : Option Value → AH → Prop} {op : OpE} {j : Nat} {as rest : List Value} (ho : opAt k pc = some op) (ha : act k pc op L S h = some (.inr (.inl (j, as, rest)))) (hp : pc + 3 = pc') (K : Cl d j as h (fun r h1 => r = none ∧ Wp (d + 1) k pc' L rest h1 Q)) : Wp (d + 1) k pc L S h Q := by
  refine Wp.call ho ha (K.mono ?_)
  rintro _ h1 ⟨rfl, K⟩
  rw [hp]
  exact K
theorem Wp.callR {d k pc pc' : Nat} {L S : List Value} {h : AH} {Q : Option Value → AH → Prop} {op : OpE} {j : Nat} {as rest : List Value} (ho : opAt k pc = some op) (ha : act k pc op L S h = some (.inr (.inl (j, as, rest)))) (hp : pc + 3 = pc') (K : Cl d j as h (fun r h1 => (∃ i : Nat, r = some (.ref i) ∧ Wp (d + 1) k pc' L (.ref i :: rest) h1 Q) ∨ (r = some .null ∧ Wp (d + 1) k pc' L (.null :: rest) h1 Q))) : Wp (d + 1) k pc L S h Q := by
  refine Wp.call ho ha (K.mono ?_)
  rintro _ h1 (⟨x, rfl, K⟩ | ⟨rfl, K⟩)
  · rw [hp]
    exact K
  · rw [hp]
    exact K
theorem Wp.br {d k a b : Nat} {L S : List Value} {h : AH} {Q : Option Value → AH → Prop} {c : Prop} [Decidable c] (K1 : c → Wp d k a L S h Q) (K2 : ¬ c → Wp d k b L S h Q) : Wp d k (if c then a else b) L S h Q := by
  by_cases hc : c
  · rw [if_pos hc]
    exact K1 hc
  · rw [if_neg hc]
    exact K2 hc
theorem Wp.tsw {d k v t a : Nat} {x : Int32} {r : List (Nat × Nat)} {L S : List Value} {h : AH} {Q : Option Value → AH → Prop} (K1 : x = Int32.ofNat v → Wp d k t L S h Q) (K2 : ¬ x = Int32.ofNat v → Wp d k (tsw x r a) L S h Q) : Wp d k (tsw x ((v, t) :: r) a) L S h Q := Wp.br K1 K2
/-- a stretch of instructions -/
def runB (k : Nat) : List (Nat × OpE) → Nat → List Value → List Value → AH → Option St
  | [], pc, L, S, h => some (pc, L, S, h)
  | e :: r, pc, L, S, h => match act k pc e.2 L S h with
    | some (.inl q) => bif Nat.beq e.1 pc then runB k r q.1 q.2.1 q.2.2.1 q.2.2.2 else none
    | _ => none
def incP : List (Nat × OpE) → Bool
  | [] => true
  | a :: r => (match r with
    | [] => true
    | b :: _ => Nat.blt a.1 b.1) && incP r
theorem incP_lt : ∀ (l : List (Nat × OpE)) (a : Nat × OpE), incP (a :: l) = true → ∀ e ∈ l, a.1 < e.1
  | [], _, _, e, he => by cases he
  | b :: r, a, h, e, he => by
    unfold incP at h
    rw [Bool.and_eq_true] at h
    have h1 : a.1 < b.1 := Nat.le_of_ble_eq_true h.1
    rcases List.mem_cons.mp he with rfl | he
    · exact h1
    · exact Nat.lt_trans h1 (incP_lt r b h.2 e he)
theorem incP_at : ∀ (l : List (Nat × OpE)), incP l = true → ∀ e ∈ l, l.lookup e.1 = some e.2
  | [], _, e, he => by cases he
  | a :: r, h, e, he => by
    rcases List.mem_cons.mp he with rfl | he2
    · rw [List.lookup_cons, beq_self_eq_true]
    · have h1 := incP_lt r a h e he2
      have h2 : (e.1 == a.1) = false := beq_eq_false_iff_ne.mpr (by omega)
      rw [List.lookup_cons, h2]
      have h3 : incP r = true := by
        unfold incP at h
        rw [Bool.and_eq_true] at h
        exact h.2
      exact incP_at r h3 e he2
theorem incP_all : ∀ k, k < 203 → incP (opL k) = true := by decide +kernel
theorem op_mem {k : Nat} (hk : k < 203) {e : Nat × OpE} (he : e ∈ opL k) : opAt k e.1 = some e.2 := incP_at _ (incP_all k hk) e he
theorem op_ix {k : Nat} (hk : k < 203) {l : List (Nat × OpE)} (hl : opL k = l) (i : Nat) {pc : Nat} {op : OpE} (h : l[i]? = some (pc, op)) : opAt k pc = some op := op_mem hk (by rw [hl]; exact List.mem_of_getElem? h)
theorem Wp.run {d k : Nat} {Q : Option Value → AH → Prop} (hk : k < 203) : ∀ (l : List (Nat × OpE)) (pc : Nat) (L S : List Value) (h : AH) (pc' : Nat) (L' S' : List Value) (h' : AH), (∀ e ∈ l, e ∈ opL k) → runB k l pc L S h = some (pc', L', S', h') → Wp d k pc' L' S' h' Q → Wp d k pc L S h Q
  | [], pc, L, S, h, pc', L', S', h', _, hr, K => by
    cases hr
    exact K
  | e :: r, pc, L, S, h, pc', L', S', h', hl, hr, K => by
    unfold runB at hr
    split at hr
    · rename_i q hq
      cases hb : Nat.beq e.1 pc with
      | false => rw [hb] at hr; cases hr
      | true =>
        rw [hb, cond_true] at hr
        have hu2 := op_mem hk (hl e List.mem_cons_self)
        rw [Nat.eq_of_beq_eq_true hb] at hu2
        exact Wp.step (pc' := q.1) (L' := q.2.1) (S' := q.2.2.1) (h' := q.2.2.2) hu2 hq (Wp.run hk r _ _ _ _ _ _ _ _ (fun e he => hl e (List.mem_cons_of_mem _ he)) hr K)
    · cases hr
theorem Wp.blk {d k pc : Nat} {L S : List Value} {h : AH} {Q : Option Value → AH → Prop} {pc' : Nat} {L' S' : List Value} {h' : AH} {l : List (Nat × OpE)} (hk : k < 203) (hl : opL k = l) (i n : Nat) (hr : runB k ((l.drop i).take n) pc L S h = some (pc', L', S', h')) (K : Wp d k pc' L' S' h' Q) : Wp d k pc L S h Q := by
  refine Wp.run hk _ _ _ _ _ _ _ _ _ (fun e he => ?_) hr K
  rw [hl]
  exact List.mem_of_mem_drop (List.mem_of_mem_take he)
section WPH
variable {d k pc i : Nat} {L S : List Value} {h h' : AH} {Q : Option Value → AH → Prop}
theorem Wp.getf {idx b c pc' : Nat} {v : Value} (ho : opAt k pc = some (3, .getfield idx, (0, 0, b, c, []))) (hk : okC c (AK h i).1 = true) (hv : rdf (ftg c b) h i b = v) (hp : pc + 3 = pc') (K : Wp d k pc' L (v :: S) h Q) : Wp d k pc L (.ref i :: S) h Q := by
  refine Wp.step (L' := L) (S' := v :: S) (h' := h) (pc' := pc') ho ?_ K
  unfold act
  dsimp only
  rw [if_pos hk, hv, hp]
  rfl
theorem Wp.putf {idx b c pc' : Nat} {v : Value} (ho : opAt k pc = some (3, .putfield idx, (0, 0, b, c, []))) (h2 : 2 ≤ i) (hk : okC c (AK h i).1 = true) (hw : wrf (ftg c b) h i b v = some h') (hp : pc + 3 = pc') (K : Wp d k pc' L S h' Q) : Wp d k pc L (v :: .ref i :: S) h Q := by
  refine Wp.step (L' := L) (S' := S) (h' := h') (pc' := pc') ho ?_ K
  unfold act
  dsimp only
  rw [if_pos (by rw [hk, Nat.ble_eq_true_of_le h2]; rfl), hw]
  dsimp only
  rw [hp]
  rfl
theorem Wp.iald {pc' : Nat} {x : Int32} (ho : opAt k pc = some (1, .iaload, x0)) (hk : (AK h i).1 = 20) (hi : inR h i x = true) (hp : pc + 1 = pc') (K : Wp d k pc' L (.int (AI h i x.toNatClampNeg) :: S) h Q) : Wp d k pc L (.int x :: .ref i :: S) h Q := by
  refine Wp.step (L' := L) (S' := .int (AI h i x.toNatClampNeg) :: S) (h' := h) (pc' := pc') ho ?_ K
  unfold act ald
  dsimp only
  rw [if_pos (by rw [hk, hi]; rfl), hp]
  rfl
theorem Wp.bald {pc' : Nat} {x : Int32} (ho : opAt k pc = some (1, .baload, x0)) (hk : (AK h i).1 = 22 ∨ (AK h i).1 = 23) (hi : inR h i x = true) (hp : pc + 1 = pc') (K : Wp d k pc' L (.int (AI h i x.toNatClampNeg) :: S) h Q) : Wp d k pc L (.int x :: .ref i :: S) h Q := by
  refine Wp.step (L' := L) (S' := .int (AI h i x.toNatClampNeg) :: S) (h' := h) (pc' := pc') ho ?_ K
  unfold act ald
  dsimp only
  rw [if_pos (by rcases hk with hk | hk <;> rw [hk, hi] <;> rfl), hp]
  rfl
theorem Wp.lald {pc' : Nat} {x : Int32} (ho : opAt k pc = some (1, .laload, x0)) (hk : (AK h i).1 = 21) (hi : inR h i x = true) (hp : pc + 1 = pc') (K : Wp d k pc' L (.long (AL h i x.toNatClampNeg) :: S) h Q) : Wp d k pc L (.int x :: .ref i :: S) h Q := by
  refine Wp.step (L' := L) (S' := .long (AL h i x.toNatClampNeg) :: S) (h' := h) (pc' := pc') ho ?_ K
  unfold act ald
  dsimp only
  rw [if_pos (by rw [hk, hi]; rfl), hp]
  rfl
theorem Wp.aald {pc' : Nat} {x : Int32} {v : Value} (ho : opAt k pc = some (1, .aaload, x0)) (hk : (AK h i).1 = 24) (hi : inR h i x = true) (hv : va_rf (AR h i x.toNatClampNeg) = v) (hp : pc + 1 = pc') (K : Wp d k pc' L (v :: S) h Q) : Wp d k pc L (.int x :: .ref i :: S) h Q := by
  refine Wp.step (L' := L) (S' := v :: S) (h' := h) (pc' := pc') ho ?_ K
  unfold act ald
  dsimp only
  rw [if_pos (by rw [hk, hi]; rfl), hp, hv]
  rfl
theorem Wp.iast {pc' : Nat} {x y : Int32} (ho : opAt k pc = some (1, .iastore, x0)) (h2 : 2 ≤ i) (hk : (AK h i).1 = 20) (hi : inR h i x = true) (hp : pc + 1 = pc') (K : Wp d k pc' L S (stI h i x.toNatClampNeg y) Q) : Wp d k pc L (.int y :: .int x :: .ref i :: S) h Q := by
  refine Wp.step (L' := L) (S' := S) (h' := stI h i x.toNatClampNeg y) (pc' := pc') ho ?_ K
  unfold act ast
  dsimp only
  rw [if_pos (by rw [hk, hi, Nat.ble_eq_true_of_le h2]; rfl), hp]
  rfl
theorem Wp.zast {pc' : Nat} {x y : Int32} (ho : opAt k pc = some (1, .bastore, x0)) (h2 : 2 ≤ i) (hk : (AK h i).1 = 23) (hi : inR h i x = true) (hp : pc + 1 = pc') (K : Wp d k pc' L S (stI h i x.toNatClampNeg (vp_nar .boolean y)) Q) : Wp d k pc L (.int y :: .int x :: .ref i :: S) h Q := by
  refine Wp.step (L' := L) (S' := S) (h' := stI h i x.toNatClampNeg (vp_nar .boolean y)) (pc' := pc') ho ?_ K
  unfold act ast
  dsimp only
  rw [if_pos (by rw [hk, hi, Nat.ble_eq_true_of_le h2]; rfl), hp, hk]
  rfl
theorem Wp.bast {pc' : Nat} {x y : Int32} (ho : opAt k pc = some (1, .bastore, x0)) (h2 : 2 ≤ i) (hk : (AK h i).1 = 22) (hi : inR h i x = true) (hp : pc + 1 = pc') (K : Wp d k pc' L S (stI h i x.toNatClampNeg (vp_nar .byte y)) Q) : Wp d k pc L (.int y :: .int x :: .ref i :: S) h Q := by
  refine Wp.step (L' := L) (S' := S) (h' := stI h i x.toNatClampNeg (vp_nar .byte y)) (pc' := pc') ho ?_ K
  unfold act ast
  dsimp only
  rw [if_pos (by rw [hk, hi, Nat.ble_eq_true_of_le h2]; rfl), hp, hk]
  rfl
theorem Wp.last {pc' : Nat} {x : Int32} {y : Int64} (ho : opAt k pc = some (1, .lastore, x0)) (h2 : 2 ≤ i) (hk : (AK h i).1 = 21) (hi : inR h i x = true) (hp : pc + 1 = pc') (K : Wp d k pc' L S (stL h i x.toNatClampNeg y) Q) : Wp d k pc L (.long y :: .int x :: .ref i :: S) h Q := by
  refine Wp.step (L' := L) (S' := S) (h' := stL h i x.toNatClampNeg y) (pc' := pc') ho ?_ K
  unfold act ast
  dsimp only
  rw [if_pos (by rw [hk, hi, Nat.ble_eq_true_of_le h2]; rfl), hp]
  rfl
theorem Wp.alen {pc' : Nat} (ho : opAt k pc = some (1, .arraylength, x0)) (hk : (AK h i).1 = 20 ∨ (AK h i).1 = 21 ∨ (AK h i).1 = 24) (hp : pc + 1 = pc') (K : Wp d k pc' L (.int (Int32.ofNat (AK h i).2) :: S) h Q) : Wp d k pc L (.ref i :: S) h Q := by
  refine Wp.step (L' := L) (S' := .int (Int32.ofNat (AK h i).2) :: S) (h' := h) (pc' := pc') ho ?_ K
  unfold act
  dsimp only
  rw [if_pos (by rcases hk with hk | hk | hk <;> rw [hk] <;> rfl), hp]
  rfl
theorem Wp.div {pc' : Nat} {x y : Int32} (ho : opAt k pc = some (1, .idiv, x0)) (hn : ¬ y = 0) (hp : pc + 1 = pc') (K : Wp d k pc' L (.int (x / y) :: S) h Q) : Wp d k pc L (.int y :: .int x :: S) h Q := by
  refine Wp.step (L' := L) (S' := .int (x / y) :: S) (h' := h) (pc' := pc') ho ?_ K
  unfold act
  dsimp only
  rw [if_neg hn, hp]
  rfl
theorem Wp.rem {pc' : Nat} {x y : Int32} (ho : opAt k pc = some (1, .irem, x0)) (hn : ¬ y = 0) (hp : pc + 1 = pc') (K : Wp d k pc' L (.int (x - x / y * y) :: S) h Q) : Wp d k pc L (.int y :: .int x :: S) h Q := by
  refine Wp.step (L' := L) (S' := .int (x - x / y * y) :: S) (h' := h) (pc' := pc') ho ?_ K
  unfold act
  dsimp only
  rw [if_neg hn, hp]
  rfl
theorem Wp.divL {pc' : Nat} {x y : Int64} (ho : opAt k pc = some (1, .ldiv, x0)) (hn : ¬ y = 0) (hp : pc + 1 = pc') (K : Wp d k pc' L (.long (x / y) :: S) h Q) : Wp d k pc L (.long y :: .long x :: S) h Q := by
  refine Wp.step (L' := L) (S' := .long (x / y) :: S) (h' := h) (pc' := pc') ho ?_ K
  unfold act
  dsimp only
  rw [if_neg hn, hp]
  rfl
theorem Wp.remL {pc' : Nat} {x y : Int64} (ho : opAt k pc = some (1, .lrem, x0)) (hn : ¬ y = 0) (hp : pc + 1 = pc') (K : Wp d k pc' L (.long (x - x / y * y) :: S) h Q) : Wp d k pc L (.long y :: .long x :: S) h Q := by
  refine Wp.step (L' := L) (S' := .long (x - x / y * y) :: S) (h' := h) (pc' := pc') ho ?_ K
  unfold act
  dsimp only
  rw [if_neg hn, hp]
  rfl
/-- the answer of a method whose type is boolean -/
theorem Wp.retB {x : Int32} {n : Nat} {xi : XI} (ho : opAt k pc = some (n, .ireturn, xi)) (hm : mRet k = some .boolean) (hb : x = 0 ∨ x = 1) (K : Q (some (.int x)) h) : Wp d k pc L [.int x] h Q := by
  refine Wp.ret ho ?_ K
  unfold act retI
  dsimp only
  rw [hm]
  dsimp only
  rw [if_pos (by rcases hb with rfl | rfl <;> decide)]
end WPH
/-- fewer locals known -/
def lesL : List Value → List Value → Prop
  | [], [] => True
  | a :: l, b :: l' => (a = mk0 ∨ a = b) ∧ lesL l l'
  | _, _ => False
theorem lesL_refl : ∀ l, lesL l l
  | [] => trivial
  | _ :: l => ⟨Or.inr rfl, lesL_refl l⟩
theorem lesL_len : ∀ {l l' : List Value}, lesL l l' → l.length = l'.length
  | [], [], _ => rfl
  | a :: l, b :: l', h => congrArg Nat.succ (lesL_len h.2)
  | [], _ :: _, h => h.elim
  | _ :: _, [], h => h.elim
theorem lesL_at : ∀ {l l' : List Value} {i : Nat} {v : Value}, lesL l l' → l[i]? = some v → v ≠ mk0 → l'[i]? = some v
  | [], _, _, _, _, h, _ => by simp at h
  | a :: l, [], _, _, h, _, _ => h.elim
  | a :: l, b :: l', 0, v, h, hv, hn => by
    simp at hv ⊢
    rcases h.1 with z | z
    · exact absurd (hv.symm.trans z) hn
    · exact z.symm.trans hv
  | a :: l, b :: l', i + 1, v, h, hv, hn => by
    simp at hv ⊢
    exact lesL_at h.2 hv hn
theorem lesL_set : ∀ {l l' : List Value} (i : Nat) (v : Value), lesL l l' → lesL (l.set i v) (l'.set i v)
  | [], [], _, _, _ => trivial
  | a :: l, b :: l', 0, v, h => ⟨Or.inr rfl, h.2⟩
  | a :: l, b :: l', i + 1, v, h => ⟨h.1, lesL_set i v h.2⟩
  | [], _ :: _, _, _, h => h.elim
  | _ :: _, [], _, _, h => h.elim
theorem lesL_set0 : ∀ {l l' : List Value} (i : Nat), lesL l l' → lesL (l.set i mk0) l'
  | [], [], _, _ => trivial
  | a :: l, b :: l', 0, h => ⟨Or.inl rfl, h.2⟩
  | a :: l, b :: l', i + 1, h => ⟨h.1, lesL_set0 i h.2⟩
  | [], _ :: _, _, h => h.elim
  | _ :: _, [], _, h => h.elim
theorem lesL_un : ∀ {l l' : List Value} (i : Nat), lesL l l' → (∀ v, l[i]? = some v → v = mk0) → lesL l (l'.set i mk0)
  | [], [], _, _, _ => trivial
  | a :: l, b :: l', 0, h, hv => ⟨Or.inl (hv a rfl), h.2⟩
  | a :: l, b :: l', i + 1, h, hv => ⟨h.1, lesL_un i h.2 (fun v z => hv v (by simpa using z))⟩
  | [], _ :: _, _, h, _ => h.elim
  | _ :: _, [], _, h, _ => h.elim
theorem lesL_cln {l l' : List Value} (i : Nat) (h : lesL l l') : lesL (cln l i) (cln l' i) := by
  unfold cln
  cases i with
  | zero => exact h
  | succ j =>
    dsimp only
    cases hv : l[j]? with
    | none =>
      have hl := lesL_len h
      have : l'[j]? = none := by
        rw [List.getElem?_eq_none_iff] at hv ⊢
        omega
      rw [this]
      exact h
    | some v =>
      by_cases hm : v = mk0
      · subst hm
        have e1 : isLong (some mk0) = false := rfl
        rw [e1, cond_false]
        cases isLong l'[j]? with
        | false => exact h
        | true => exact lesL_un j h (fun w hw => by rw [hv] at hw; exact (Option.some.inj hw).symm)
      · rw [lesL_at h hv hm]
        cases isLong (some v) with
        | false => exact h
        | true => exact lesL_set j mk0 h
theorem lesL_sto1 {l l' : List Value} (i : Nat) (v : Value) (h : lesL l l') : lesL (sto1 l i v) (sto1 l' i v) := lesL_set i v (lesL_cln i h)
theorem lesL_sto2 {l l' : List Value} (i : Nat) (v : Value) (h : lesL l l') : lesL (sto2 l i v) (sto2 l' i v) := lesL_set (i + 1) mk0 (lesL_set i v (lesL_cln i h))
def locI (i : Instr) : Bool := match i with
  | .iload _ | .iload_n _ | .lload _ | .lload_n _ | .aload _ | .aload_n _ | .istore _ | .istore_n _ | .lstore _ | .lstore_n _ | .astore _ | .astore_n _ | .iinc _ _ => true
  | _ => false
def ActL (L : List Value) (a : Act) : Act := match a with
  | .inl q => .inl (q.1, L, q.2.2.1, q.2.2.2)
  | .inr z => .inr z
theorem act_relab {k pc : Nat} {op : OpE} {L L1 S : List Value} {h : AH} (hn : locI op.2.1 = false) : act k pc op L1 S h = (act k pc op L S h).map (ActL L1) := by
  obtain ⟨len, ins, vi, vl, b, c2, lst⟩ := op
  cases ins
  case ifCond cn off => cases cn <;> (unfold act; dsimp only; unfold brI; split <;> rfl)
  case if_icmp cn off => cases cn <;> (unfold act; dsimp only; unfold brII; split <;> rfl)
  case invokestatic n =>
    unfold act
    dsimp only
    cases hb9 : Nat.beq b 9001 <;> cases hb8 : Nat.beq b 9002 <;> simp only [cond_true, cond_false] <;> first | (unfold cal; (repeat' split) <;> rfl) | (unfold mmx; (repeat' split) <;> rfl)
  case invokespecial n =>
    unfold act
    dsimp only
    cases hb9 : Nat.beq b 9999 <;> simp only [cond_true, cond_false] <;> first | (unfold cal; (repeat' split) <;> rfl) | ((repeat' split) <;> rfl)
  all_goals first
    | (cases hn; done)
    | rfl
    | (unfold act
       dsimp only
       first | unfold bin | unfold binL | unfold shL | unfold un1 | unfold brI | unfold brII | unfold ald | unfold ast | unfold newA | unfold retI | unfold cal | skip
       (repeat' split) <;> rfl)
theorem act_les {k pc : Nat} {op : OpE} {L L1 S : List Value} {h : AH} {a : Act} (hl : lesL L L1) (ha : act k pc op L S h = some a) : ∃ L', act k pc op L1 S h = some (ActL L' a) ∧ ∀ q, a = .inl q → lesL q.2.1 L' := by
  cases hn : locI op.2.1 with
  | false =>
    refine ⟨L1, by rw [act_relab (L := L) hn, ha]; rfl, fun q hq => ?_⟩
    subst hq
    have hLs : q.2.1 = L := by
      have h1 := act_relab (k := k) (pc := pc) (L := L) (L1 := L) (S := S) (h := h) hn
      rw [ha] at h1
      have h2 := Option.some.inj h1
      have h3 := Sum.inl.inj h2
      rw [h3]
    rw [hLs]
    exact hl
  | true =>
    have hlen := lesL_len hl
    have nxL : ∀ {q : Nat} {L2 L3 S2 : List Value} {h2 : AH}, nx q L2 S2 h2 = some a → lesL L2 L3 → ∃ L', nx q L3 S2 h2 = some (ActL L' a) ∧ ∀ q, a = .inl q → lesL q.2.1 L' := fun e hl2 => by
      unfold nx at e
      cases e
      exact ⟨_, rfl, fun q hq => by cases hq; exact hl2⟩
    obtain ⟨len, ins, vi, vl, b, c2, lst⟩ := op
    unfold act at ha ⊢
    cases ins
    case iload i =>
      dsimp only at ha ⊢
      unfold loI at ha ⊢
      split at ha
      · rename_i x hx
        rw [lesL_at hl hx (fun z => by cases z)]
        exact nxL ha hl
      · cases ha
    case iload_n i =>
      dsimp only at ha ⊢
      unfold loI at ha ⊢
      split at ha
      · rename_i x hx
        rw [lesL_at hl hx (fun z => by cases z)]
        exact nxL ha hl
      · cases ha
    case lload i =>
      dsimp only at ha ⊢
      unfold loL at ha ⊢
      split at ha
      · rename_i x hx
        rw [lesL_at hl hx (fun z => by cases z)]
        exact nxL ha hl
      · cases ha
    case lload_n i =>
      dsimp only at ha ⊢
      unfold loL at ha ⊢
      split at ha
      · rename_i x hx
        rw [lesL_at hl hx (fun z => by cases z)]
        exact nxL ha hl
      · cases ha
    case aload i =>
      dsimp only at ha ⊢
      unfold loA at ha ⊢
      split at ha
      · rename_i x hx
        rw [lesL_at hl hx (fun z => by cases z)]
        exact nxL ha hl
      · rename_i hx
        rw [lesL_at hl hx (fun z => by cases z)]
        exact nxL ha hl
      · cases ha
    case aload_n i =>
      dsimp only at ha ⊢
      unfold loA at ha ⊢
      split at ha
      · rename_i x hx
        rw [lesL_at hl hx (fun z => by cases z)]
        exact nxL ha hl
      · rename_i hx
        rw [lesL_at hl hx (fun z => by cases z)]
        exact nxL ha hl
      · cases ha
    case istore i =>
      dsimp only at ha ⊢
      unfold soI at ha ⊢
      split at ha
      · split at ha
        · rename_i hlt
          rw [← hlen, if_pos hlt]
          exact nxL ha (lesL_sto1 _ _ hl)
        · cases ha
      · cases ha
    case istore_n i =>
      dsimp only at ha ⊢
      unfold soI at ha ⊢
      split at ha
      · split at ha
        · rename_i hlt
          rw [← hlen, if_pos hlt]
          exact nxL ha (lesL_sto1 _ _ hl)
        · cases ha
      · cases ha
    case lstore i =>
      dsimp only at ha ⊢
      unfold soL at ha ⊢
      split at ha
      · split at ha
        · rename_i hlt
          rw [← hlen, if_pos hlt]
          exact nxL ha (lesL_sto2 _ _ hl)
        · cases ha
      · cases ha
    case lstore_n i =>
      dsimp only at ha ⊢
      unfold soL at ha ⊢
      split at ha
      · split at ha
        · rename_i hlt
          rw [← hlen, if_pos hlt]
          exact nxL ha (lesL_sto2 _ _ hl)
        · cases ha
      · cases ha
    case astore i =>
      dsimp only at ha ⊢
      unfold soA at ha ⊢
      split at ha
      · split at ha
        · rename_i hlt
          rw [← hlen, if_pos hlt]
          exact nxL ha (lesL_sto1 _ _ hl)
        · cases ha
      · split at ha
        · rename_i hlt
          rw [← hlen, if_pos hlt]
          exact nxL ha (lesL_sto1 _ _ hl)
        · cases ha
      · cases ha
    case astore_n i =>
      dsimp only at ha ⊢
      unfold soA at ha ⊢
      split at ha
      · split at ha
        · rename_i hlt
          rw [← hlen, if_pos hlt]
          exact nxL ha (lesL_sto1 _ _ hl)
        · cases ha
      · split at ha
        · rename_i hlt
          rw [← hlen, if_pos hlt]
          exact nxL ha (lesL_sto1 _ _ hl)
        · cases ha
      · cases ha
    case iinc i n =>
      dsimp only at ha ⊢
      split at ha
      · rename_i x hx
        rw [lesL_at hl hx (fun z => by cases z)]
        exact nxL ha (lesL_sto1 _ _ hl)
      · cases ha
    all_goals (cases hn)
theorem exec_les : ∀ (n d k pc : Nat) (L L1 S : List Value) (h : AH) (r : Option Value × AH), lesL L L1 → exec n d k pc L S h = some r → exec n d k pc L1 S h = some r
  | 0, _, _, _, _, _, _, _, _, _, e => by cases e
  | n + 1, d, k, pc, L, L1, S, h, r, hl, e => by
    unfold exec at e ⊢
    split at e
    · cases e
    · split at e
      · cases e
      · rename_i op hop q hq
        obtain ⟨L', h1, h2⟩ := act_les hl hq
        rw [h1]
        exact exec_les n _ _ _ _ _ _ _ _ (h2 q rfl) e
      · rename_i op hop v hq
        obtain ⟨L', h1, h2⟩ := act_les hl hq
        rw [h1]
        exact e
      · rename_i op hop q hq
        obtain ⟨L', h1, h2⟩ := act_les hl hq
        rw [h1]
        dsimp only [ActL]
        split at e
        · cases e
        · split at e
          · cases e
          · rename_i r1 hr1
            exact exec_les n _ _ _ _ _ _ _ _ hl e
/-- locals may be forgotten -/
theorem Wp.forget {d k pc : Nat} {L L1 S : List Value} {h : AH} {Q : Option Value → AH → Prop} (hl : lesL L L1) (K : Wp d k pc L S h Q) : Wp d k pc L1 S h Q := by
  obtain ⟨n, r, h', he, hq⟩ := K
  exact ⟨n, r, h', exec_les n _ _ _ _ _ _ _ _ hl he, hq⟩
theorem ol_0 : opL 0 = op_0 := rfl
theorem ol_1 : opL 1 = op_1 := rfl
theorem ol_2 : opL 2 = op_2 := rfl
theorem ol_3 : opL 3 = op_3 := rfl
theorem ol_4 : opL 4 = op_4 := rfl
theorem ol_5 : opL 5 = op_5 := rfl
theorem ol_6 : opL 6 = op_6 := rfl
theorem ol_7 : opL 7 = op_7 := rfl
theorem ol_8 : opL 8 = op_8 := rfl
theorem ol_9 : opL 9 = op_9 := rfl
theorem ol_10 : opL 10 = op_10 := rfl
theorem ol_11 : opL 11 = op_11 := rfl
theorem ol_12 : opL 12 = op_12 := rfl
theorem ol_13 : opL 13 = op_13 := rfl
theorem ol_14 : opL 14 = op_14 := rfl
theorem ol_15 : opL 15 = op_15 := rfl
theorem ol_16 : opL 16 = op_16 := rfl
theorem ol_17 : opL 17 = op_17 := rfl
theorem ol_18 : opL 18 = op_18 := rfl
theorem ol_19 : opL 19 = op_19 := rfl
theorem ol_20 : opL 20 = op_20 := rfl
theorem ol_21 : opL 21 = op_21 := rfl
theorem ol_22 : opL 22 = op_22 := rfl
theorem ol_23 : opL 23 = op_23 := rfl
theorem ol_24 : opL 24 = op_24 := rfl
theorem ol_25 : opL 25 = op_25 := rfl
theorem ol_26 : opL 26 = op_26 := rfl
theorem ol_27 : opL 27 = op_27 := rfl
theorem ol_28 : opL 28 = op_28 := rfl
theorem ol_29 : opL 29 = op_29 := rfl
theorem ol_30 : opL 30 = op_30 := rfl
theorem ol_31 : opL 31 = op_31 := rfl
theorem ol_32 : opL 32 = op_32 := rfl
theorem ol_33 : opL 33 = op_33 := rfl
theorem ol_34 : opL 34 = op_34 := rfl
theorem ol_35 : opL 35 = op_35 := rfl
theorem ol_36 : opL 36 = op_36 := rfl
theorem ol_37 : opL 37 = op_37 := rfl
theorem ol_38 : opL 38 = op_38 := rfl
theorem ol_39 : opL 39 = op_39 := rfl
theorem ol_40 : opL 40 = op_40 := rfl
theorem ol_41 : opL 41 = op_41 := rfl
theorem ol_42 : opL 42 = op_42 := rfl
theorem ol_43 : opL 43 = op_43 := rfl
theorem ol_44 : opL 44 = op_44 := rfl
theorem ol_45 : opL 45 = op_45 := rfl
theorem ol_46 : opL 46 = op_46 := rfl
theorem ol_47 : opL 47 = op_47 := rfl
theorem ol_48 : opL 48 = op_48 := rfl
theorem ol_49 : opL 49 = op_49 := rfl
theorem ol_50 : opL 50 = op_50 := rfl
theorem ol_51 : opL 51 = op_51 := rfl
theorem ol_52 : opL 52 = op_52 := rfl
theorem ol_53 : opL 53 = op_53 := rfl
theorem ol_54 : opL 54 = op_54 := rfl
theorem ol_55 : opL 55 = op_55 := rfl
theorem ol_56 : opL 56 = op_56 := rfl
theorem ol_57 : opL 57 = op_57 := rfl
theorem ol_58 : opL 58 = op_58 := rfl
theorem ol_59 : opL 59 = op_59 := rfl
theorem ol_60 : opL 60 = op_60 := rfl
theorem ol_61 : opL 61 = op_61 := rfl
theorem ol_62 : opL 62 = op_62 := rfl
theorem ol_63 : opL 63 = op_63 := rfl
theorem ol_64 : opL 64 = op_64 := rfl
theorem ol_65 : opL 65 = op_65 := rfl
theorem ol_66 : opL 66 = op_66 := rfl
theorem ol_67 : opL 67 = op_67 := rfl
theorem ol_68 : opL 68 = op_68 := rfl
theorem ol_69 : opL 69 = op_69 := rfl
theorem ol_70 : opL 70 = op_70 := rfl
theorem ol_71 : opL 71 = op_71 := rfl
theorem ol_72 : opL 72 = op_72 := rfl
theorem ol_73 : opL 73 = op_73 := rfl
theorem ol_74 : opL 74 = op_74 := rfl
theorem ol_75 : opL 75 = op_75 := rfl
theorem ol_76 : opL 76 = op_76 := rfl
theorem ol_77 : opL 77 = op_77 := rfl
theorem ol_78 : opL 78 = op_78 := rfl
theorem ol_79 : opL 79 = op_79 := rfl
theorem ol_80 : opL 80 = op_80 := rfl
theorem ol_81 : opL 81 = op_81 := rfl
theorem ol_82 : opL 82 = op_82 := rfl
theorem ol_83 : opL 83 = op_83 := rfl
theorem ol_84 : opL 84 = op_84 := rfl
theorem ol_85 : opL 85 = op_85 := rfl
theorem ol_86 : opL 86 = op_86 := rfl
theorem ol_87 : opL 87 = op_87 := rfl
theorem ol_88 : opL 88 = op_88 := rfl
theorem ol_89 : opL 89 = op_89 := rfl
theorem ol_90 : opL 90 = op_90 := rfl
theorem ol_91 : opL 91 = op_91 := rfl
theorem ol_92 : opL 92 = op_92 := rfl
theorem ol_93 : opL 93 = op_93 := rfl
theorem ol_94 : opL 94 = op_94 := rfl
theorem ol_95 : opL 95 = op_95 := rfl
theorem ol_96 : opL 96 = op_96 := rfl
theorem ol_97 : opL 97 = op_97 := rfl
theorem ol_98 : opL 98 = op_98 := rfl
theorem ol_99 : opL 99 = op_99 := rfl
theorem ol_100 : opL 100 = op_100 := rfl
theorem ol_101 : opL 101 = op_101 := rfl
theorem ol_102 : opL 102 = op_102 := rfl
theorem ol_103 : opL 103 = op_103 := rfl
theorem ol_104 : opL 104 = op_104 := rfl
theorem ol_105 : opL 105 = op_105 := rfl
theorem ol_106 : opL 106 = op_106 := rfl
theorem ol_107 : opL 107 = op_107 := rfl
theorem ol_108 : opL 108 = op_108 := rfl
theorem ol_109 : opL 109 = op_109 := rfl
theorem ol_110 : opL 110 = op_110 := rfl
theorem ol_111 : opL 111 = op_111 := rfl
theorem ol_112 : opL 112 = op_112 := rfl
theorem ol_113 : opL 113 = op_113 := rfl
theorem ol_114 : opL 114 = op_114 := rfl
theorem ol_115 : opL 115 = op_115 := rfl
theorem ol_116 : opL 116 = op_116 := rfl
theorem ol_117 : opL 117 = op_117 := rfl
theorem ol_118 : opL 118 = op_118 := rfl
theorem ol_119 : opL 119 = op_119 := rfl
theorem ol_120 : opL 120 = op_120 := rfl
theorem ol_121 : opL 121 = op_121 := rfl
theorem ol_122 : opL 122 = op_122 := rfl
theorem ol_123 : opL 123 = op_123 := rfl
theorem ol_124 : opL 124 = op_124 := rfl
theorem ol_125 : opL 125 = op_125 := rfl
theorem ol_126 : opL 126 = op_126 := rfl
theorem ol_127 : opL 127 = op_127 := rfl
theorem ol_128 : opL 128 = op_128 := rfl
theorem ol_129 : opL 129 = op_129 := rfl
theorem ol_130 : opL 130 = op_130 := rfl
theorem ol_131 : opL 131 = op_131 := rfl
theorem ol_132 : opL 132 = op_132 := rfl
theorem ol_133 : opL 133 = op_133 := rfl
theorem ol_134 : opL 134 = op_134 := rfl
theorem ol_135 : opL 135 = op_135 := rfl
theorem ol_136 : opL 136 = op_136 := rfl
theorem ol_137 : opL 137 = op_137 := rfl
theorem ol_138 : opL 138 = op_138 := rfl
theorem ol_139 : opL 139 = op_139 := rfl
theorem ol_140 : opL 140 = op_140 := rfl
theorem ol_141 : opL 141 = op_141 := rfl
theorem ol_142 : opL 142 = op_142 := rfl
theorem ol_143 : opL 143 = op_143 := rfl
theorem ol_144 : opL 144 = op_144 := rfl
theorem ol_145 : opL 145 = op_145 := rfl
theorem ol_146 : opL 146 = op_146 := rfl
theorem ol_147 : opL 147 = op_147 := rfl
theorem ol_148 : opL 148 = op_148 := rfl
theorem ol_149 : opL 149 = op_149 := rfl
theorem ol_150 : opL 150 = op_150 := rfl
theorem ol_151 : opL 151 = op_151 := rfl
theorem ol_152 : opL 152 = op_152 := rfl
theorem ol_153 : opL 153 = op_153 := rfl
theorem ol_154 : opL 154 = op_154 := rfl
theorem ol_155 : opL 155 = op_155 := rfl
theorem ol_156 : opL 156 = op_156 := rfl
theorem ol_157 : opL 157 = op_157 := rfl
theorem ol_158 : opL 158 = op_158 := rfl
theorem ol_159 : opL 159 = op_159 := rfl
theorem ol_160 : opL 160 = op_160 := rfl
theorem ol_161 : opL 161 = op_161 := rfl
theorem ol_162 : opL 162 = op_162 := rfl
theorem ol_163 : opL 163 = op_163 := rfl
theorem ol_164 : opL 164 = op_164 := rfl
theorem ol_165 : opL 165 = op_165 := rfl
theorem ol_166 : opL 166 = op_166 := rfl
theorem ol_167 : opL 167 = op_167 := rfl
theorem ol_168 : opL 168 = op_168 := rfl
theorem ol_169 : opL 169 = op_169 := rfl
theorem ol_170 : opL 170 = op_170 := rfl
theorem ol_171 : opL 171 = op_171 := rfl
theorem ol_172 : opL 172 = op_172 := rfl
theorem ol_173 : opL 173 = op_173 := rfl
theorem ol_174 : opL 174 = op_174 := rfl
theorem ol_175 : opL 175 = op_175 := rfl
theorem ol_176 : opL 176 = op_176 := rfl
theorem ol_177 : opL 177 = op_177 := rfl
theorem ol_178 : opL 178 = op_178 := rfl
theorem ol_179 : opL 179 = op_179 := rfl
theorem ol_180 : opL 180 = op_180 := rfl
theorem ol_181 : opL 181 = op_181 := rfl
theorem ol_182 : opL 182 = op_182 := rfl
theorem ol_183 : opL 183 = op_183 := rfl
theorem ol_184 : opL 184 = op_184 := rfl
theorem ol_185 : opL 185 = op_185 := rfl
theorem ol_186 : opL 186 = op_186 := rfl
theorem ol_187 : opL 187 = op_187 := rfl
theorem ol_188 : opL 188 = op_188 := rfl
theorem ol_189 : opL 189 = op_189 := rfl
theorem ol_190 : opL 190 = op_190 := rfl
theorem ol_191 : opL 191 = op_191 := rfl
theorem ol_192 : opL 192 = op_192 := rfl
theorem ol_193 : opL 193 = op_193 := rfl
theorem ol_194 : opL 194 = op_194 := rfl
theorem ol_195 : opL 195 = op_195 := rfl
theorem ol_196 : opL 196 = op_196 := rfl
theorem ol_197 : opL 197 = op_197 := rfl
theorem ol_198 : opL 198 = op_198 := rfl
theorem ol_199 : opL 199 = op_199 := rfl
theorem ol_200 : opL 200 = op_200 := rfl
theorem ol_201 : opL 201 = op_201 := rfl
theorem ol_202 : opL 202 = op_202 := rfl
end
section
/-! the known objects, and what calls of the smallest methods do -/
def K0l : List (Nat × Nat) := [(1000, 0), (1000, 0), (11, 13), (6, 3), (20, 50), (5, 8), (20, 10), (20, 10), (20, 10), (20, 10), (20, 1024), (10, 6), (20, 9), (10, 6), (20, 9), (10, 6), (20, 9), (8, 5), (20, 1024), (21, 236196), (9, 2), (3, 1), (24, 5), (12, 47), (20, 10), (20, 10), (20, 10), (20, 10), (20, 9), (20, 5), (22, 50), (20, 9), (20, 9), (20, 9), (20, 9), (20, 9), (20, 9), (23, 1024), (20, 10), (20, 11), (23, 118098), (20, 39366), (20, 20), (20, 6), (20, 6), (20, 9)]
def K0 (i : Nat) : Nat × Nat := K0l.getD i (1000, 0)
def R0l : List (List (Option Nat)) := [[], [], [some 3, some 5, some 11, some 13, some 15, some 17, some 20, some 21, some 22], [some 4], [], [some 6, some 7, some 8, some 9, some 10], [], [], [], [], [], [some 5, some 12], [], [some 5, some 14], [], [some 5, some 16], [], [some 5, some 18, some 19], [], [], [some 5, some 17], [], [], [none, none, none, none, some 24, some 25, some 26, some 27, none, none, some 28, none, some 29, none, none, some 30, none, none, none, none, some 31, some 32, none, none, none, none, none, some 33, some 34, some 35, some 36, some 37, none, some 38, some 39, none, some 40, none, none, none, some 41, some 42, none, some 43, some 44, some 45], [], [], [], [], [], [], [], [], [], [], [], [], [], [], [], [], [], [], [], [], [], []]
def R0 (i b : Nat) : Option Nat := (R0l.getD i []).getD b none
/-- the objects that the two constructors made stand -/
def Sh (h : AH) : Prop := 46 ≤ AN h ∧ (∀ i, (K0 i).1 ≠ 1000 → AK h i = K0 i) ∧ ∀ i b v, R0 i b = some v → AR h i b = some v
theorem Sh.of {h h' : AH} (hs : Sh h) (e1 : AN h' = AN h) (e2 : AK h' = AK h) (e3 : AR h' = AR h) : Sh h' := ⟨by rw [e1]; exact hs.1, by rw [e2]; exact hs.2.1, by rw [e3]; exact hs.2.2⟩
theorem K0_lt {i : Nat} (h : (K0 i).1 ≠ 1000) : 2 ≤ i ∧ i < 46 := by
  rcases Nat.lt_or_ge i 46 with z | z
  · refine ⟨?_, z⟩
    match i, h with
    | 0, h => exact absurd rfl h
    | 1, h => exact absurd rfl h
    | i + 2, _ => exact Nat.le_add_left _ _
  · exfalso
    apply h
    unfold K0
    rw [List.getD_eq_getElem?_getD, List.getElem?_eq_none (by show 46 ≤ i; exact z)]
    rfl
theorem Sh.newO {h : AH} (hs : Sh h) (kd n : Nat) : Sh (newO h kd n) := by
  have h1 := hs.1
  refine ⟨Nat.le_succ_of_le hs.1, fun i hi => ?_, fun i b v hv => ?_⟩
  · have hlt := (K0_lt hi).2
    show up1 (AK h) (AN h) (kd, n) i = K0 i
    rw [show up1 (AK h) (AN h) (kd, n) i = AK h i from if_neg (by omega)]
    exact hs.2.1 i hi
  · have hlt : i < 46 := by
      rcases Nat.lt_or_ge i 46 with z | z
      · exact z
      · exfalso
        unfold R0 at hv
        rw [List.getD_eq_getElem?_getD (l := R0l), List.getElem?_eq_none (by show 46 ≤ i; exact z)] at hv
        cases hv
    show up1 (AR h) (AN h) (fun _ => none) i b = some v
    rw [show up1 (AR h) (AN h) (fun _ => none) i = AR h i from if_neg (by omega)]
    exact hs.2.2 i b v hv
theorem Sh.stR {h : AH} (hs : Sh h) {i j : Nat} {v : Option Nat} (hn : ∀ b, R0 i b = none) : Sh (stR h i j v) := by
  refine ⟨hs.1, hs.2.1, fun a b w hw => ?_⟩
  show up2 (AR h) i j v a b = some w
  rw [show up2 (AR h) i j v a b = AR h a b from if_neg (fun z => by rw [z.1, hn] at hw; cases hw)]
  exact hs.2.2 a b w hw
def ixR (x : Int32) (n : Nat) : Prop := ¬ x < 0 ∧ x.toNatClampNeg < n
theorem kS {h : AH} (hs : Sh h) (i : Nat) {c : Nat} (e : (K0 i).1 = c) (hn : c ≠ 1000 := by decide) : (AK h i).1 = c := by
  rw [hs.2.1 i (by rw [e]; exact hn), e]
theorem okS {h : AH} (hs : Sh h) (i : Nat) {c c0 : Nat} (e : (K0 i).1 = c0) (ok : okC c c0 = true) (hn : c0 ≠ 1000 := by decide) : okC c (AK h i).1 = true := by
  rw [kS hs i e hn]
  exact ok
theorem inS {h : AH} (hs : Sh h) (i : Nat) {x : Int32} {c n : Nat} (e : K0 i = (c, n)) (r : ixR x n) (hn : c ≠ 1000 := by decide) : inR h i x = true := by
  unfold inR
  rw [hs.2.1 i (by rw [e]; exact hn), e, decide_eq_true r.1, decide_eq_true r.2]
  rfl
theorem rS {h : AH} (hs : Sh h) (i b : Nat) {v : Nat} (e : R0 i b = some v) : AR h i b = some v := hs.2.2 i b v e
def St3 (v : Nat) : Prop := v = 11 ∨ v = 13 ∨ v = 15
theorem twoT {v : Nat} (t : St3 v) : 2 ≤ v := by rcases t with rfl | rfl | rfl <;> decide
theorem kT {h : AH} {v : Nat} (hs : Sh h) (t : St3 v) : (AK h v).1 = 10 := by rcases t with rfl | rfl | rfl <;> exact kS hs _ rfl
theorem okT {h : AH} {v : Nat} (hs : Sh h) (t : St3 v) : okC 10 (AK h v).1 = true := by rw [kT hs t]; rfl
theorem rT0 {h : AH} {v : Nat} (hs : Sh h) (t : St3 v) : AR h v 0 = some 5 := by rcases t with rfl | rfl | rfl <;> exact rS hs _ _ rfl
theorem rT1 {h : AH} {v : Nat} (hs : Sh h) (t : St3 v) : AR h v 1 = some (v + 1) := by rcases t with rfl | rfl | rfl <;> exact rS hs _ _ rfl
theorem kM {h : AH} {v : Nat} (hs : Sh h) (t : St3 v) : (AK h (v + 1)).1 = 20 := by rcases t with rfl | rfl | rfl <;> exact kS hs _ rfl
theorem inM {h : AH} {v : Nat} {x : Int32} (hs : Sh h) (t : St3 v) (r : ixR x 9) : inR h (v + 1) x = true := by rcases t with rfl | rfl | rfl <;> exact inS hs _ rfl r
theorem lk1 {c j x : Nat} (h : x = c) : ([(c, j)] : List (Nat × Nat)).lookup x = some j := by
  rw [h, List.lookup_cons, beq_self_eq_true]
theorem act_virt {k pc idx c2 : Nat} {lst : List (Nat × Nat)} {L S : List Value} {h : AH} {i j : Nat} {rest : List Value} {q : Nat × List Value × List Value} (hd : S.drop c2 = .ref i :: rest) (hl : lst.lookup (AK h i).1 = some j) (hc : cal j (.ref i :: (S.take c2).reverse) rest = some (.inr (.inl q))) : act k pc (3, .invokevirtual idx, (0, 0, 0, c2, lst)) L S h = some (.inr (.inl q)) := by
  unfold act
  dsimp only
  rw [hd]
  dsimp only
  rw [hl]
  exact hc
theorem cal_ok {j : Nat} {a r : List Value} (h1 : catOK r = true) (h2 : (exL a).length ≤ mMax j) : cal j a r = some (.inr (.inl (j, a, r))) := by
  unfold cal
  rw [if_pos (by rw [h1, Nat.ble_eq_true_of_le h2]; rfl)]
theorem Cl.enter {d j : Nat} {args L : List Value} {h : AH} {Q : Option Value → AH → Prop} (hL : ini (mMax j) args = L) (K : Wp d j 0 L [] h Q) : Cl d j args h Q := by
  unfold Cl
  rw [hL]
  exact K
theorem Wp.inst {d k pc i r idx pc' : Nat} {lst : List (Nat × Nat)} {L S : List Value} {h : AH} {Q : Option Value → AH → Prop} (ho : opAt k pc = some (3, .instanceof idx, (0, 0, 0, 0, lst))) (hl : lst.lookup (AK h i).1 = some r) (hp : pc + 3 = pc') (K : Wp d k pc' L (.int (Int32.ofNat r) :: S) h Q) : Wp d k pc L (.ref i :: S) h Q := by
  refine Wp.step (L' := L) (S' := .int (Int32.ofNat r) :: S) (h' := h) (pc' := pc') ho ?_ K
  unfold act
  dsimp only
  rw [hl, hp]
  rfl
/-- a row read or written by 'at' and 'put' -/
def atv (h : AH) (a : Nat) (i : Int32) : Int32 := if i < 0 then 0 else if i < Int32.ofNat (AK h a).2 then AI h a i.toNatClampNeg else 0
def putv (h : AH) (a : Nat) (i x : Int32) : AH := if i < 0 then h else if i < Int32.ofNat (AK h a).2 then stI h a i.toNatClampNeg x else h
theorem putv_AN (h : AH) (a : Nat) (i x : Int32) : AN (putv h a i x) = AN h := by
  unfold putv
  split
  · rfl
  · split <;> rfl
theorem putv_AK (h : AH) (a : Nat) (i x : Int32) : AK (putv h a i x) = AK h := by
  unfold putv
  split
  · rfl
  · split <;> rfl
theorem putv_AR (h : AH) (a : Nat) (i x : Int32) : AR (putv h a i x) = AR h := by
  unfold putv
  split
  · rfl
  · split <;> rfl
theorem Sh.putv {h : AH} (hs : Sh h) (a : Nat) (i x : Int32) : Sh (putv h a i x) := hs.of (putv_AN h a i x) (putv_AK h a i x) (putv_AR h a i x)
theorem inR_of {h : AH} {a : Nat} {i : Int32} (h1 : ¬ i < 0) (h2 : i < Int32.ofNat (AK h a).2) (hn : (AK h a).2 < 2147483648) : inR h a i = true := by
  obtain ⟨j, hj, rfl⟩ := nI_of h1
  unfold inR
  have h3 := (nI_ltI hj hn).mp h2
  rw [decide_eq_true h1, nI_clamp hj, decide_eq_true h3]
  rfl

/-- CutsOrFast.at at 0 ([II)I -/
theorem g126_0 (d : Nat) (v0 : Nat) (v1 : Int32) (h : AH)  (Q : Option Value → AH → Prop) (K : ((v1 < (0 : Int32) → Q (some (.int (0 : Int32))) h) ∧ (¬ v1 < (0 : Int32) → (((AK h v0).1 = 20 ∨ (AK h v0).1 = 21 ∨ (AK h v0).1 = 24) ∧ ((v1 < (Int32.ofNat (AK h v0).2) → ((AK h v0).1 = 20 ∧ inR h v0 v1 = true ∧ Q (some (.int (AI h v0 v1.toNatClampNeg))) h)) ∧ (¬ v1 < (Int32.ofNat (AK h v0).2) → Q (some (.int (0 : Int32))) h)))))) : Wp d 126 0 [.ref v0, .int v1] [] h Q := by
  refine Wp.blk (by decide) ol_126 0 2 (pc' := (if v1 < (0 : Int32) then 16 else 4)) (L' := [.ref v0, .int v1]) (S' := []) (h' := h) rfl ?_
  refine Wp.br (fun c1 => ?_) (fun c1 => ?_)
  · replace K := K.1 c1
    refine Wp.blk (by decide) ol_126 10 1 (pc' := 17) (L' := [.ref v0, .int v1]) (S' := [.int (0 : Int32)]) (h' := h) rfl ?_
    exact Wp.ret (op_ix (by decide) ol_126 11 rfl) rfl K
  · replace K := K.2 c1
    refine Wp.blk (by decide) ol_126 2 2 (pc' := 6) (L' := [.ref v0, .int v1]) (S' := [.ref v0, .int v1]) (h' := h) rfl ?_
    obtain ⟨k2, K⟩ := K
    refine Wp.alen (op_ix (by decide) ol_126 4 rfl) k2 rfl ?_
    refine Wp.blk (by decide) ol_126 5 1 (pc' := (if v1 < (Int32.ofNat (AK h v0).2) then 10 else 16)) (L' := [.ref v0, .int v1]) (S' := []) (h' := h) rfl ?_
    refine Wp.br (fun c3 => ?_) (fun c3 => ?_)
    · replace K := K.1 c3
      refine Wp.blk (by decide) ol_126 6 2 (pc' := 12) (L' := [.ref v0, .int v1]) (S' := [.int v1, .ref v0]) (h' := h) rfl ?_
      obtain ⟨k4, K⟩ := K
      obtain ⟨r5, K⟩ := K
      refine Wp.iald (op_ix (by decide) ol_126 8 rfl) k4 r5 rfl ?_
      refine Wp.blk (by decide) ol_126 9 1 (pc' := 17) (L' := [.ref v0, .int v1]) (S' := [.int (AI h v0 v1.toNatClampNeg)]) (h' := h) rfl ?_
      exact Wp.ret (op_ix (by decide) ol_126 11 rfl) rfl K
    · replace K := K.2 c3
      refine Wp.blk (by decide) ol_126 10 1 (pc' := 17) (L' := [.ref v0, .int v1]) (S' := [.int (0 : Int32)]) (h' := h) rfl ?_
      exact Wp.ret (op_ix (by decide) ol_126 11 rfl) rfl K
/-- CutsOrFast.put at 0 ([III)V -/
theorem g127_0 (d : Nat) (v0 : Nat) (v1 : Int32) (v2 : Int32) (h : AH)  (Q : Option Value → AH → Prop) (K : ((v1 < (0 : Int32) → Q none h) ∧ (¬ v1 < (0 : Int32) → (((AK h v0).1 = 20 ∨ (AK h v0).1 = 21 ∨ (AK h v0).1 = 24) ∧ ((v1 < (Int32.ofNat (AK h v0).2) → ((AK h v0).1 = 20 ∧ inR h v0 v1 = true ∧ 2 ≤ v0 ∧ Q none (stI h v0 v1.toNatClampNeg v2))) ∧ (¬ v1 < (Int32.ofNat (AK h v0).2) → Q none h)))))) : Wp d 127 0 [.ref v0, .int v1, .int v2] [] h Q := by
  refine Wp.blk (by decide) ol_127 0 2 (pc' := (if v1 < (0 : Int32) then 14 else 4)) (L' := [.ref v0, .int v1, .int v2]) (S' := []) (h' := h) rfl ?_
  refine Wp.br (fun c1 => ?_) (fun c1 => ?_)
  · replace K := K.1 c1
    exact Wp.ret (op_ix (by decide) ol_127 10 rfl) rfl K
  · replace K := K.2 c1
    refine Wp.blk (by decide) ol_127 2 2 (pc' := 6) (L' := [.ref v0, .int v1, .int v2]) (S' := [.ref v0, .int v1]) (h' := h) rfl ?_
    obtain ⟨k2, K⟩ := K
    refine Wp.alen (op_ix (by decide) ol_127 4 rfl) k2 rfl ?_
    refine Wp.blk (by decide) ol_127 5 1 (pc' := (if v1 < (Int32.ofNat (AK h v0).2) then 10 else 14)) (L' := [.ref v0, .int v1, .int v2]) (S' := []) (h' := h) rfl ?_
    refine Wp.br (fun c3 => ?_) (fun c3 => ?_)
    · replace K := K.1 c3
      refine Wp.blk (by decide) ol_127 6 3 (pc' := 13) (L' := [.ref v0, .int v1, .int v2]) (S' := [.int v2, .int v1, .ref v0]) (h' := h) rfl ?_
      obtain ⟨k4, K⟩ := K
      obtain ⟨r5, K⟩ := K
      obtain ⟨b6, K⟩ := K
      refine Wp.iast (op_ix (by decide) ol_127 9 rfl) b6 k4 r5 rfl ?_
      exact Wp.ret (op_ix (by decide) ol_127 10 rfl) rfl K
    · replace K := K.2 c3
      exact Wp.ret (op_ix (by decide) ol_127 10 rfl) rfl K
theorem sp_at {d a : Nat} {i : Int32} {h : AH} {Q : Option Value → AH → Prop} (hk : (AK h a).1 = 20) (hn : (AK h a).2 < 2147483648) (K : Q (some (.int (atv h a i))) h) : Cl d 126 [.ref a, .int i] h Q := by
  refine Cl.enter rfl (g126_0 d a i h Q ?_)
  unfold atv at K
  refine ⟨fun h1 => ?_, fun h1 => ⟨Or.inl hk, fun h2 => ⟨hk, inR_of h1 h2 hn, ?_⟩, fun h2 => ?_⟩⟩
  · rwa [if_pos h1] at K
  · rwa [if_neg h1, if_pos h2] at K
  · rwa [if_neg h1, if_neg h2] at K
theorem sp_put {d a : Nat} {i x : Int32} {h : AH} {Q : Option Value → AH → Prop} (hk : (AK h a).1 = 20) (hn : (AK h a).2 < 2147483648) (h2 : 2 ≤ a) (K : Q none (putv h a i x)) : Cl d 127 [.ref a, .int i, .int x] h Q := by
  refine Cl.enter rfl (g127_0 d a i x h Q ?_)
  unfold putv at K
  refine ⟨fun h1 => ?_, fun h1 => ⟨Or.inl hk, fun h3 => ⟨hk, inR_of h1 h3 hn, h2, ?_⟩, fun h3 => ?_⟩⟩
  · rwa [if_pos h1] at K
  · rwa [if_neg h1, if_pos h3] at K
  · rwa [if_neg h1, if_neg h3] at K
theorem nS {h : AH} (hs : Sh h) (i : Nat) {c n : Nat} (e : K0 i = (c, n)) (hn : c ≠ 1000 := by decide) (hl : n < 2147483648 := by decide) : (AK h i).2 < 2147483648 := by
  rw [hs.2.1 i (by rw [e]; exact hn), e]
  exact hl
theorem nM {h : AH} {v : Nat} (hs : Sh h) (t : St3 v) : (AK h (v + 1)).2 < 2147483648 := by rcases t with rfl | rfl | rfl <;> exact nS hs _ rfl
end
