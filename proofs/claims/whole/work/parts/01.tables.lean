-- ===== PART A: goes FIRST, ahead of the names: the tables' words, and 'selects' of the private methods out of them =====
/-- a private method of a class that the tables say can be made, by its rows of tables_1 -/
def lw_okq (q : MethodName × Nat) : Prop := (q.1.cls ≠ "java/lang/invoke/MethodHandle" ∧ q.1.cls ≠ "java/lang/invoke/VarHandle") ∧ Cond.instantiable q.1.cls q.2 ∈ tables_1 ∧ Cond.privateMethod q.1 ∈ tables_1 ∧ Cond.instanceMethod q.1 ∈ tables_1
theorem lw_p0 : lw_okq (⟨"CutsOrFast$Net", "spread", "(II)I"⟩, 8) := ⟨⟨by decide +kernel, by decide +kernel⟩, List.mem_of_getElem? (i := 42) (by decide +kernel), List.mem_of_getElem? (i := 269) (by decide +kernel), List.mem_of_getElem? (i := 270) (by decide +kernel)⟩
theorem lw_p1 : lw_okq (⟨"CutsOrFast$Net", "spreadOnce", "(II)I"⟩, 8) := ⟨⟨by decide +kernel, by decide +kernel⟩, List.mem_of_getElem? (i := 42) (by decide +kernel), List.mem_of_getElem? (i := 273) (by decide +kernel), List.mem_of_getElem? (i := 274) (by decide +kernel)⟩
theorem lw_p2 : lw_okq (⟨"CutsOrFast", "isLane", "(I)Z"⟩, 13) := ⟨⟨by decide +kernel, by decide +kernel⟩, List.mem_of_getElem? (i := 17) (by decide +kernel), List.mem_of_getElem? (i := 293) (by decide +kernel), List.mem_of_getElem? (i := 294) (by decide +kernel)⟩
theorem lw_p3 : lw_okq (⟨"CutsOrFast", "hasNet", "()Z"⟩, 13) := ⟨⟨by decide +kernel, by decide +kernel⟩, List.mem_of_getElem? (i := 17) (by decide +kernel), List.mem_of_getElem? (i := 317) (by decide +kernel), List.mem_of_getElem? (i := 318) (by decide +kernel)⟩
theorem lw_p4 : lw_okq (⟨"CutsOrFast", "canBeTaken", "(I)Z"⟩, 13) := ⟨⟨by decide +kernel, by decide +kernel⟩, List.mem_of_getElem? (i := 17) (by decide +kernel), List.mem_of_getElem? (i := 360) (by decide +kernel), List.mem_of_getElem? (i := 361) (by decide +kernel)⟩
theorem lw_p5 : lw_okq (⟨"CutsOrFast$Search", "openSet", "(II)I"⟩, 5) := ⟨⟨by decide +kernel, by decide +kernel⟩, List.mem_of_getElem? (i := 98) (by decide +kernel), List.mem_of_getElem? (i := 394) (by decide +kernel), List.mem_of_getElem? (i := 395) (by decide +kernel)⟩
theorem lw_p6 : lw_okq (⟨"CutsOrFast$Search", "ownerOf", "(IIII)I"⟩, 5) := ⟨⟨by decide +kernel, by decide +kernel⟩, List.mem_of_getElem? (i := 98) (by decide +kernel), List.mem_of_getElem? (i := 405) (by decide +kernel), List.mem_of_getElem? (i := 406) (by decide +kernel)⟩
theorem lw_p7 : lw_okq (⟨"CutsOrFast$Search", "standOf", "(II)I"⟩, 5) := ⟨⟨by decide +kernel, by decide +kernel⟩, List.mem_of_getElem? (i := 98) (by decide +kernel), List.mem_of_getElem? (i := 410) (by decide +kernel), List.mem_of_getElem? (i := 411) (by decide +kernel)⟩
theorem lw_p8 : lw_okq (⟨"CutsOrFast$Search", "ownersMove", "(IIII)I"⟩, 5) := ⟨⟨by decide +kernel, by decide +kernel⟩, List.mem_of_getElem? (i := 98) (by decide +kernel), List.mem_of_getElem? (i := 417) (by decide +kernel), List.mem_of_getElem? (i := 418) (by decide +kernel)⟩
theorem lw_p9 : lw_okq (⟨"CutsOrFast$Sets", "mends", "(IIII)Z"⟩, 2) := ⟨⟨by decide +kernel, by decide +kernel⟩, List.mem_of_getElem? (i := 127) (by decide +kernel), List.mem_of_getElem? (i := 492) (by decide +kernel), List.mem_of_getElem? (i := 493) (by decide +kernel)⟩
theorem lw_p10 : lw_okq (⟨"CutsOrFast$Search", "worthOf", "(IIIII)I"⟩, 5) := ⟨⟨by decide +kernel, by decide +kernel⟩, List.mem_of_getElem? (i := 98) (by decide +kernel), List.mem_of_getElem? (i := 523) (by decide +kernel), List.mem_of_getElem? (i := 524) (by decide +kernel)⟩
theorem lw_p11 : lw_okq (⟨"CutsOrFast$Search", "worthByMoves", "(IIIII)I"⟩, 5) := ⟨⟨by decide +kernel, by decide +kernel⟩, List.mem_of_getElem? (i := 98) (by decide +kernel), List.mem_of_getElem? (i := 533) (by decide +kernel), List.mem_of_getElem? (i := 534) (by decide +kernel)⟩
theorem lw_p12 : lw_okq (⟨"CutsOrFast", "playerAt", "(I)LCutsOrFast$Player;"⟩, 13) := ⟨⟨by decide +kernel, by decide +kernel⟩, List.mem_of_getElem? (i := 17) (by decide +kernel), List.mem_of_getElem? (i := 611) (by decide +kernel), List.mem_of_getElem? (i := 612) (by decide +kernel)⟩
theorem lw_p13 : lw_okq (⟨"CutsOrFast$Near", "lengthOver", "(LCutsOrFast$Net;I)I"⟩, 2) := ⟨⟨by decide +kernel, by decide +kernel⟩, List.mem_of_getElem? (i := 575) (by decide +kernel), List.mem_of_getElem? (i := 685) (by decide +kernel), List.mem_of_getElem? (i := 686) (by decide +kernel)⟩
theorem lw_p14 : lw_okq (⟨"CutsOrFast", "playOut", "(LCutsOrFast$Player;LCutsOrFast$Player;)I"⟩, 13) := ⟨⟨by decide +kernel, by decide +kernel⟩, List.mem_of_getElem? (i := 17) (by decide +kernel), List.mem_of_getElem? (i := 706) (by decide +kernel), List.mem_of_getElem? (i := 707) (by decide +kernel)⟩
theorem lw_p15 : lw_okq (⟨"CutsOrFastModel", "readNet", "()V"⟩, 47) := ⟨⟨by decide +kernel, by decide +kernel⟩, List.mem_of_getElem? (i := 760) (by decide +kernel), List.mem_of_getElem? (i := 925) (by decide +kernel), List.mem_of_getElem? (i := 926) (by decide +kernel)⟩
def lw_privs_1 : List (MethodName × Nat) := [(⟨"CutsOrFast$Net", "spread", "(II)I"⟩, 8), (⟨"CutsOrFast$Net", "spreadOnce", "(II)I"⟩, 8), (⟨"CutsOrFast", "isLane", "(I)Z"⟩, 13), (⟨"CutsOrFast", "hasNet", "()Z"⟩, 13), (⟨"CutsOrFast", "canBeTaken", "(I)Z"⟩, 13), (⟨"CutsOrFast$Search", "openSet", "(II)I"⟩, 5), (⟨"CutsOrFast$Search", "ownerOf", "(IIII)I"⟩, 5), (⟨"CutsOrFast$Search", "standOf", "(II)I"⟩, 5), (⟨"CutsOrFast$Search", "ownersMove", "(IIII)I"⟩, 5), (⟨"CutsOrFast$Sets", "mends", "(IIII)Z"⟩, 2), (⟨"CutsOrFast$Search", "worthOf", "(IIIII)I"⟩, 5), (⟨"CutsOrFast$Search", "worthByMoves", "(IIIII)I"⟩, 5), (⟨"CutsOrFast", "playerAt", "(I)LCutsOrFast$Player;"⟩, 13), (⟨"CutsOrFast$Near", "lengthOver", "(LCutsOrFast$Net;I)I"⟩, 2), (⟨"CutsOrFast", "playOut", "(LCutsOrFast$Player;LCutsOrFast$Player;)I"⟩, 13), (⟨"CutsOrFastModel", "readNet", "()V"⟩, 47)]
theorem lw_r1 : ∀ q ∈ lw_privs_1, lw_okq q := List.forall_mem_cons.mpr ⟨lw_p0, List.forall_mem_cons.mpr ⟨lw_p1, List.forall_mem_cons.mpr ⟨lw_p2, List.forall_mem_cons.mpr ⟨lw_p3, List.forall_mem_cons.mpr ⟨lw_p4, List.forall_mem_cons.mpr ⟨lw_p5, List.forall_mem_cons.mpr ⟨lw_p6, List.forall_mem_cons.mpr ⟨lw_p7, List.forall_mem_cons.mpr ⟨lw_p8, List.forall_mem_cons.mpr ⟨lw_p9, List.forall_mem_cons.mpr ⟨lw_p10, List.forall_mem_cons.mpr ⟨lw_p11, List.forall_mem_cons.mpr ⟨lw_p12, List.forall_mem_cons.mpr ⟨lw_p13, List.forall_mem_cons.mpr ⟨lw_p14, List.forall_mem_cons.mpr ⟨lw_p15, fun _ h => absurd h List.not_mem_nil⟩⟩⟩⟩⟩⟩⟩⟩⟩⟩⟩⟩⟩⟩⟩⟩
theorem lw_p16 : lw_okq (⟨"CutsOrFastModel", "nextState", "(II)I"⟩, 47) := ⟨⟨by decide +kernel, by decide +kernel⟩, List.mem_of_getElem? (i := 760) (by decide +kernel), List.mem_of_getElem? (i := 929) (by decide +kernel), List.mem_of_getElem? (i := 930) (by decide +kernel)⟩
theorem lw_p17 : lw_okq (⟨"CutsOrFastModel", "behindLane", "(II)I"⟩, 47) := ⟨⟨by decide +kernel, by decide +kernel⟩, List.mem_of_getElem? (i := 760) (by decide +kernel), List.mem_of_getElem? (i := 936) (by decide +kernel), List.mem_of_getElem? (i := 937) (by decide +kernel)⟩
theorem lw_p18 : lw_okq (⟨"CutsOrFastModel", "isLaneNumber", "(I)Z"⟩, 47) := ⟨⟨by decide +kernel, by decide +kernel⟩, List.mem_of_getElem? (i := 760) (by decide +kernel), List.mem_of_getElem? (i := 948) (by decide +kernel), List.mem_of_getElem? (i := 949) (by decide +kernel)⟩
theorem lw_p19 : lw_okq (⟨"CutsOrFastModel", "laneNow", "(II)I"⟩, 47) := ⟨⟨by decide +kernel, by decide +kernel⟩, List.mem_of_getElem? (i := 760) (by decide +kernel), List.mem_of_getElem? (i := 952) (by decide +kernel), List.mem_of_getElem? (i := 953) (by decide +kernel)⟩
theorem lw_p20 : lw_okq (⟨"CutsOrFastModel", "statusNow", "()I"⟩, 47) := ⟨⟨by decide +kernel, by decide +kernel⟩, List.mem_of_getElem? (i := 760) (by decide +kernel), List.mem_of_getElem? (i := 960) (by decide +kernel), List.mem_of_getElem? (i := 961) (by decide +kernel)⟩
theorem lw_p21 : lw_okq (⟨"CutsOrFastModel", "setOf", "(I)I"⟩, 47) := ⟨⟨by decide +kernel, by decide +kernel⟩, List.mem_of_getElem? (i := 760) (by decide +kernel), List.mem_of_getElem? (i := 964) (by decide +kernel), List.mem_of_getElem? (i := 965) (by decide +kernel)⟩
theorem lw_p22 : lw_okq (⟨"CutsOrFastModel", "joins", "(II)Z"⟩, 47) := ⟨⟨by decide +kernel, by decide +kernel⟩, List.mem_of_getElem? (i := 760) (by decide +kernel), List.mem_of_getElem? (i := 968) (by decide +kernel), List.mem_of_getElem? (i := 969) (by decide +kernel)⟩
theorem lw_p23 : lw_okq (⟨"CutsOrFastModel", "reached", "(III)I"⟩, 47) := ⟨⟨by decide +kernel, by decide +kernel⟩, List.mem_of_getElem? (i := 760) (by decide +kernel), List.mem_of_getElem? (i := 972) (by decide +kernel), List.mem_of_getElem? (i := 973) (by decide +kernel)⟩
theorem lw_p24 : lw_okq (⟨"CutsOrFastModel", "laySolved", "(I)V"⟩, 47) := ⟨⟨by decide +kernel, by decide +kernel⟩, List.mem_of_getElem? (i := 760) (by decide +kernel), List.mem_of_getElem? (i := 986) (by decide +kernel), List.mem_of_getElem? (i := 987) (by decide +kernel)⟩
theorem lw_p25 : lw_okq (⟨"CutsOrFastModel", "layOpens", "(I)V"⟩, 47) := ⟨⟨by decide +kernel, by decide +kernel⟩, List.mem_of_getElem? (i := 760) (by decide +kernel), List.mem_of_getElem? (i := 990) (by decide +kernel), List.mem_of_getElem? (i := 991) (by decide +kernel)⟩
theorem lw_p26 : lw_okq (⟨"CutsOrFastModel", "readCode", "(I)V"⟩, 47) := ⟨⟨by decide +kernel, by decide +kernel⟩, List.mem_of_getElem? (i := 760) (by decide +kernel), List.mem_of_getElem? (i := 994) (by decide +kernel), List.mem_of_getElem? (i := 995) (by decide +kernel)⟩
theorem lw_p27 : lw_okq (⟨"CutsOrFastModel", "hasBy", "(II)Z"⟩, 47) := ⟨⟨by decide +kernel, by decide +kernel⟩, List.mem_of_getElem? (i := 760) (by decide +kernel), List.mem_of_getElem? (i := 998) (by decide +kernel), List.mem_of_getElem? (i := 999) (by decide +kernel)⟩
theorem lw_p28 : lw_okq (⟨"CutsOrFastModel", "byNow", "(I)I"⟩, 47) := ⟨⟨by decide +kernel, by decide +kernel⟩, List.mem_of_getElem? (i := 760) (by decide +kernel), List.mem_of_getElem? (i := 1009) (by decide +kernel), List.mem_of_getElem? (i := 1010) (by decide +kernel)⟩
theorem lw_p29 : lw_okq (⟨"CutsOrFastModel", "byFrom", "(II)I"⟩, 47) := ⟨⟨by decide +kernel, by decide +kernel⟩, List.mem_of_getElem? (i := 760) (by decide +kernel), List.mem_of_getElem? (i := 1013) (by decide +kernel), List.mem_of_getElem? (i := 1014) (by decide +kernel)⟩
theorem lw_p30 : lw_okq (⟨"CutsOrFastModel", "lostNow", "()I"⟩, 47) := ⟨⟨by decide +kernel, by decide +kernel⟩, List.mem_of_getElem? (i := 760) (by decide +kernel), List.mem_of_getElem? (i := 1037) (by decide +kernel), List.mem_of_getElem? (i := 1038) (by decide +kernel)⟩
theorem lw_p31 : lw_okq (⟨"CutsOrFastModel", "placeOf", "(I)I"⟩, 47) := ⟨⟨by decide +kernel, by decide +kernel⟩, List.mem_of_getElem? (i := 760) (by decide +kernel), List.mem_of_getElem? (i := 1041) (by decide +kernel), List.mem_of_getElem? (i := 1042) (by decide +kernel)⟩
def lw_privs_2 : List (MethodName × Nat) := [(⟨"CutsOrFastModel", "nextState", "(II)I"⟩, 47), (⟨"CutsOrFastModel", "behindLane", "(II)I"⟩, 47), (⟨"CutsOrFastModel", "isLaneNumber", "(I)Z"⟩, 47), (⟨"CutsOrFastModel", "laneNow", "(II)I"⟩, 47), (⟨"CutsOrFastModel", "statusNow", "()I"⟩, 47), (⟨"CutsOrFastModel", "setOf", "(I)I"⟩, 47), (⟨"CutsOrFastModel", "joins", "(II)Z"⟩, 47), (⟨"CutsOrFastModel", "reached", "(III)I"⟩, 47), (⟨"CutsOrFastModel", "laySolved", "(I)V"⟩, 47), (⟨"CutsOrFastModel", "layOpens", "(I)V"⟩, 47), (⟨"CutsOrFastModel", "readCode", "(I)V"⟩, 47), (⟨"CutsOrFastModel", "hasBy", "(II)Z"⟩, 47), (⟨"CutsOrFastModel", "byNow", "(I)I"⟩, 47), (⟨"CutsOrFastModel", "byFrom", "(II)I"⟩, 47), (⟨"CutsOrFastModel", "lostNow", "()I"⟩, 47), (⟨"CutsOrFastModel", "placeOf", "(I)I"⟩, 47)]
theorem lw_r2 : ∀ q ∈ lw_privs_2, lw_okq q := List.forall_mem_cons.mpr ⟨lw_p16, List.forall_mem_cons.mpr ⟨lw_p17, List.forall_mem_cons.mpr ⟨lw_p18, List.forall_mem_cons.mpr ⟨lw_p19, List.forall_mem_cons.mpr ⟨lw_p20, List.forall_mem_cons.mpr ⟨lw_p21, List.forall_mem_cons.mpr ⟨lw_p22, List.forall_mem_cons.mpr ⟨lw_p23, List.forall_mem_cons.mpr ⟨lw_p24, List.forall_mem_cons.mpr ⟨lw_p25, List.forall_mem_cons.mpr ⟨lw_p26, List.forall_mem_cons.mpr ⟨lw_p27, List.forall_mem_cons.mpr ⟨lw_p28, List.forall_mem_cons.mpr ⟨lw_p29, List.forall_mem_cons.mpr ⟨lw_p30, List.forall_mem_cons.mpr ⟨lw_p31, fun _ h => absurd h List.not_mem_nil⟩⟩⟩⟩⟩⟩⟩⟩⟩⟩⟩⟩⟩⟩⟩⟩
theorem lw_p32 : lw_okq (⟨"CutsOrFastModel", "waysNow", "()I"⟩, 47) := ⟨⟨by decide +kernel, by decide +kernel⟩, List.mem_of_getElem? (i := 760) (by decide +kernel), List.mem_of_getElem? (i := 1049) (by decide +kernel), List.mem_of_getElem? (i := 1050) (by decide +kernel)⟩
theorem lw_p33 : lw_okq (⟨"CutsOrFastModel", "partingNow", "(I)I"⟩, 47) := ⟨⟨by decide +kernel, by decide +kernel⟩, List.mem_of_getElem? (i := 760) (by decide +kernel), List.mem_of_getElem? (i := 1057) (by decide +kernel), List.mem_of_getElem? (i := 1058) (by decide +kernel)⟩
theorem lw_p34 : lw_okq (⟨"CutsOrFastModel", "mendNow", "(I)I"⟩, 47) := ⟨⟨by decide +kernel, by decide +kernel⟩, List.mem_of_getElem? (i := 760) (by decide +kernel), List.mem_of_getElem? (i := 1068) (by decide +kernel), List.mem_of_getElem? (i := 1069) (by decide +kernel)⟩
theorem lw_p35 : lw_okq (⟨"CutsOrFastModel", "isMendedBy", "(II)Z"⟩, 47) := ⟨⟨by decide +kernel, by decide +kernel⟩, List.mem_of_getElem? (i := 760) (by decide +kernel), List.mem_of_getElem? (i := 1072) (by decide +kernel), List.mem_of_getElem? (i := 1073) (by decide +kernel)⟩
theorem lw_p36 : lw_okq (⟨"CutsOrFastModel", "boughtNow", "(I)I"⟩, 47) := ⟨⟨by decide +kernel, by decide +kernel⟩, List.mem_of_getElem? (i := 760) (by decide +kernel), List.mem_of_getElem? (i := 1080) (by decide +kernel), List.mem_of_getElem? (i := 1081) (by decide +kernel)⟩
theorem lw_p37 : lw_okq (⟨"CutsOrFastModel", "likelyNow", "(II)I"⟩, 47) := ⟨⟨by decide +kernel, by decide +kernel⟩, List.mem_of_getElem? (i := 760) (by decide +kernel), List.mem_of_getElem? (i := 1089) (by decide +kernel), List.mem_of_getElem? (i := 1090) (by decide +kernel)⟩
theorem lw_p38 : lw_okq (⟨"CutsOrFastModel", "layWholes", "(I)V"⟩, 47) := ⟨⟨by decide +kernel, by decide +kernel⟩, List.mem_of_getElem? (i := 760) (by decide +kernel), List.mem_of_getElem? (i := 1093) (by decide +kernel), List.mem_of_getElem? (i := 1094) (by decide +kernel)⟩
theorem lw_p39 : lw_okq (⟨"CutsOrFastModel", "chanceBy", "(III)I"⟩, 47) := ⟨⟨by decide +kernel, by decide +kernel⟩, List.mem_of_getElem? (i := 760) (by decide +kernel), List.mem_of_getElem? (i := 1100) (by decide +kernel), List.mem_of_getElem? (i := 1101) (by decide +kernel)⟩
theorem lw_p40 : lw_okq (⟨"CutsOrFastModel", "isPlayer", "(I)Z"⟩, 47) := ⟨⟨by decide +kernel, by decide +kernel⟩, List.mem_of_getElem? (i := 760) (by decide +kernel), List.mem_of_getElem? (i := 1116) (by decide +kernel), List.mem_of_getElem? (i := 1117) (by decide +kernel)⟩
theorem lw_p41 : lw_okq (⟨"CutsOrFastModel", "takes", "(II)I"⟩, 47) := ⟨⟨by decide +kernel, by decide +kernel⟩, List.mem_of_getElem? (i := 760) (by decide +kernel), List.mem_of_getElem? (i := 1124) (by decide +kernel), List.mem_of_getElem? (i := 1125) (by decide +kernel)⟩
theorem lw_p42 : lw_okq (⟨"CutsOrFastModel", "nthOpen", "(I)I"⟩, 47) := ⟨⟨by decide +kernel, by decide +kernel⟩, List.mem_of_getElem? (i := 760) (by decide +kernel), List.mem_of_getElem? (i := 1128) (by decide +kernel), List.mem_of_getElem? (i := 1129) (by decide +kernel)⟩
theorem lw_p43 : lw_okq (⟨"CutsOrFastModel", "nearest", "(Z)I"⟩, 47) := ⟨⟨by decide +kernel, by decide +kernel⟩, List.mem_of_getElem? (i := 760) (by decide +kernel), List.mem_of_getElem? (i := 1132) (by decide +kernel), List.mem_of_getElem? (i := 1133) (by decide +kernel)⟩
theorem lw_p44 : lw_okq (⟨"CutsOrFastModel", "layFar", "()V"⟩, 47) := ⟨⟨by decide +kernel, by decide +kernel⟩, List.mem_of_getElem? (i := 760) (by decide +kernel), List.mem_of_getElem? (i := 1136) (by decide +kernel), List.mem_of_getElem? (i := 1137) (by decide +kernel)⟩
theorem lw_p45 : lw_okq (⟨"CutsOrFastModel", "isNear", "(I)Z"⟩, 47) := ⟨⟨by decide +kernel, by decide +kernel⟩, List.mem_of_getElem? (i := 760) (by decide +kernel), List.mem_of_getElem? (i := 1140) (by decide +kernel), List.mem_of_getElem? (i := 1141) (by decide +kernel)⟩
theorem lw_p46 : lw_okq (⟨"CutsOrFastModel", "openMany", "()I"⟩, 47) := ⟨⟨by decide +kernel, by decide +kernel⟩, List.mem_of_getElem? (i := 760) (by decide +kernel), List.mem_of_getElem? (i := 1144) (by decide +kernel), List.mem_of_getElem? (i := 1145) (by decide +kernel)⟩
theorem lw_p47 : lw_okq (⟨"CutsOrFastModel", "draw", "(I)I"⟩, 47) := ⟨⟨by decide +kernel, by decide +kernel⟩, List.mem_of_getElem? (i := 760) (by decide +kernel), List.mem_of_getElem? (i := 1148) (by decide +kernel), List.mem_of_getElem? (i := 1149) (by decide +kernel)⟩
def lw_privs_3 : List (MethodName × Nat) := [(⟨"CutsOrFastModel", "waysNow", "()I"⟩, 47), (⟨"CutsOrFastModel", "partingNow", "(I)I"⟩, 47), (⟨"CutsOrFastModel", "mendNow", "(I)I"⟩, 47), (⟨"CutsOrFastModel", "isMendedBy", "(II)Z"⟩, 47), (⟨"CutsOrFastModel", "boughtNow", "(I)I"⟩, 47), (⟨"CutsOrFastModel", "likelyNow", "(II)I"⟩, 47), (⟨"CutsOrFastModel", "layWholes", "(I)V"⟩, 47), (⟨"CutsOrFastModel", "chanceBy", "(III)I"⟩, 47), (⟨"CutsOrFastModel", "isPlayer", "(I)Z"⟩, 47), (⟨"CutsOrFastModel", "takes", "(II)I"⟩, 47), (⟨"CutsOrFastModel", "nthOpen", "(I)I"⟩, 47), (⟨"CutsOrFastModel", "nearest", "(Z)I"⟩, 47), (⟨"CutsOrFastModel", "layFar", "()V"⟩, 47), (⟨"CutsOrFastModel", "isNear", "(I)Z"⟩, 47), (⟨"CutsOrFastModel", "openMany", "()I"⟩, 47), (⟨"CutsOrFastModel", "draw", "(I)I"⟩, 47)]
theorem lw_r3 : ∀ q ∈ lw_privs_3, lw_okq q := List.forall_mem_cons.mpr ⟨lw_p32, List.forall_mem_cons.mpr ⟨lw_p33, List.forall_mem_cons.mpr ⟨lw_p34, List.forall_mem_cons.mpr ⟨lw_p35, List.forall_mem_cons.mpr ⟨lw_p36, List.forall_mem_cons.mpr ⟨lw_p37, List.forall_mem_cons.mpr ⟨lw_p38, List.forall_mem_cons.mpr ⟨lw_p39, List.forall_mem_cons.mpr ⟨lw_p40, List.forall_mem_cons.mpr ⟨lw_p41, List.forall_mem_cons.mpr ⟨lw_p42, List.forall_mem_cons.mpr ⟨lw_p43, List.forall_mem_cons.mpr ⟨lw_p44, List.forall_mem_cons.mpr ⟨lw_p45, List.forall_mem_cons.mpr ⟨lw_p46, List.forall_mem_cons.mpr ⟨lw_p47, fun _ h => absurd h List.not_mem_nil⟩⟩⟩⟩⟩⟩⟩⟩⟩⟩⟩⟩⟩⟩⟩⟩
theorem lw_p48 : lw_okq (⟨"CutsOrFastModel", "playOut", "(III)I"⟩, 47) := ⟨⟨by decide +kernel, by decide +kernel⟩, List.mem_of_getElem? (i := 760) (by decide +kernel), List.mem_of_getElem? (i := 1160) (by decide +kernel), List.mem_of_getElem? (i := 1161) (by decide +kernel)⟩
theorem lw_p49 : lw_okq (⟨"CutsOrFastModel", "howMany", "(I)I"⟩, 47) := ⟨⟨by decide +kernel, by decide +kernel⟩, List.mem_of_getElem? (i := 760) (by decide +kernel), List.mem_of_getElem? (i := 1176) (by decide +kernel), List.mem_of_getElem? (i := 1177) (by decide +kernel)⟩
theorem lw_p50 : lw_okq (⟨"CutsOrFastModel", "mix", "(J)V"⟩, 47) := ⟨⟨by decide +kernel, by decide +kernel⟩, List.mem_of_getElem? (i := 760) (by decide +kernel), List.mem_of_getElem? (i := 1185) (by decide +kernel), List.mem_of_getElem? (i := 1186) (by decide +kernel)⟩
theorem lw_p51 : lw_okq (⟨"CutsOrFastModel", "mixNet", "()V"⟩, 47) := ⟨⟨by decide +kernel, by decide +kernel⟩, List.mem_of_getElem? (i := 760) (by decide +kernel), List.mem_of_getElem? (i := 1190) (by decide +kernel), List.mem_of_getElem? (i := 1191) (by decide +kernel)⟩
def lw_privs_4 : List (MethodName × Nat) := [(⟨"CutsOrFastModel", "playOut", "(III)I"⟩, 47), (⟨"CutsOrFastModel", "howMany", "(I)I"⟩, 47), (⟨"CutsOrFastModel", "mix", "(J)V"⟩, 47), (⟨"CutsOrFastModel", "mixNet", "()V"⟩, 47)]
theorem lw_r4 : ∀ q ∈ lw_privs_4, lw_okq q := List.forall_mem_cons.mpr ⟨lw_p48, List.forall_mem_cons.mpr ⟨lw_p49, List.forall_mem_cons.mpr ⟨lw_p50, List.forall_mem_cons.mpr ⟨lw_p51, fun _ h => absurd h List.not_mem_nil⟩⟩⟩⟩
def lw_privs : List (MethodName × Nat) := lw_privs_1 ++ (lw_privs_2 ++ (lw_privs_3 ++ (lw_privs_4)))
def lw_tbl : List Cond := k2_sels lw_privs ++ tables_1
theorem lw_privs_ok : ∀ q ∈ lw_privs, lw_okq q := by
  show ∀ q ∈ lw_privs_1 ++ (lw_privs_2 ++ (lw_privs_3 ++ (lw_privs_4))), lw_okq q
  exact List.forall_mem_append.mpr ⟨lw_r1, List.forall_mem_append.mpr ⟨lw_r2, List.forall_mem_append.mpr ⟨lw_r3, lw_r4⟩⟩⟩

/-! names: classes, fields, types -/
def RX0 : String := "CutsOrFast$Best"
def TX0 : u_T := fun k => match k with
  | _ => ("", "", "", false)
def tyX0 : Nat → FieldType := fun k => match k with
  | _ => .int
theorem nmX0 : ∀ a, a < 0 → ∀ b, b < 0 → a ≠ b → (TX0 a).2.1 ≠ (TX0 b).2.1 := by decide +kernel
theorem tyX0_ok : ∀ k, k < 0 → parseFieldDescriptor (TX0 k).2.2.1 = some (tyX0 k) := by decide +kernel
def RX1 : String := "CutsOrFast$Chance"
def TX1 : u_T := fun k => match k with
  | _ => ("", "", "", false)
def tyX1 : Nat → FieldType := fun k => match k with
  | _ => .int
theorem nmX1 : ∀ a, a < 0 → ∀ b, b < 0 → a ≠ b → (TX1 a).2.1 ≠ (TX1 b).2.1 := by decide +kernel
theorem tyX1_ok : ∀ k, k < 0 → parseFieldDescriptor (TX1 k).2.2.1 = some (tyX1 k) := by decide +kernel
def RX2 : String := "CutsOrFast$Dear"
def TX2 : u_T := fun k => match k with
  | 0 => ("CutsOrFast$Near", "fromOne", "[I", true)
  | _ => ("CutsOrFast$Near", "fromOther", "[I", true)
def tyX2 : Nat → FieldType := fun k => match k with
  | 0 => .array .int
  | _ => .array .int
theorem nmX2 : ∀ a, a < 2 → ∀ b, b < 2 → a ≠ b → (TX2 a).2.1 ≠ (TX2 b).2.1 := by decide +kernel
theorem tyX2_ok : ∀ k, k < 2 → parseFieldDescriptor (TX2 k).2.2.1 = some (tyX2 k) := by decide +kernel
def RX3 : String := "CutsOrFast$Draws"
def TX3 : u_T := fun k => match k with
  | _ => ("CutsOrFast$Draws", "seed", "J", false)
def tyX3 : Nat → FieldType := fun k => match k with
  | _ => .long
theorem nmX3 : ∀ a, a < 1 → ∀ b, b < 1 → a ≠ b → (TX3 a).2.1 ≠ (TX3 b).2.1 := by decide +kernel
theorem tyX3_ok : ∀ k, k < 1 → parseFieldDescriptor (TX3 k).2.2.1 = some (tyX3 k) := by decide +kernel
def RX4 : String := "CutsOrFast$Near"
def TX4 : u_T := fun k => match k with
  | 0 => ("CutsOrFast$Near", "fromOne", "[I", true)
  | _ => ("CutsOrFast$Near", "fromOther", "[I", true)
def tyX4 : Nat → FieldType := fun k => match k with
  | 0 => .array .int
  | _ => .array .int
theorem nmX4 : ∀ a, a < 2 → ∀ b, b < 2 → a ≠ b → (TX4 a).2.1 ≠ (TX4 b).2.1 := by decide +kernel
theorem tyX4_ok : ∀ k, k < 2 → parseFieldDescriptor (TX4 k).2.2.1 = some (tyX4 k) := by decide +kernel
def RX5 : String := "CutsOrFast$Net"
def TX5 : u_T := fun k => match k with
  | 0 => ("CutsOrFast$Net", "first", "[I", true)
  | 1 => ("CutsOrFast$Net", "second", "[I", true)
  | 2 => ("CutsOrFast$Net", "cost", "[I", true)
  | 3 => ("CutsOrFast$Net", "pair", "[I", true)
  | 4 => ("CutsOrFast$Net", "reached", "[I", true)
  | 5 => ("CutsOrFast$Net", "used", "I", false)
  | 6 => ("CutsOrFast$Net", "oneEnd", "I", false)
  | _ => ("CutsOrFast$Net", "otherEnd", "I", false)
def tyX5 : Nat → FieldType := fun k => match k with
  | 0 => .array .int
  | 1 => .array .int
  | 2 => .array .int
  | 3 => .array .int
  | 4 => .array .int
  | 5 => .int
  | 6 => .int
  | _ => .int
theorem nmX5 : ∀ a, a < 8 → ∀ b, b < 8 → a ≠ b → (TX5 a).2.1 ≠ (TX5 b).2.1 := by decide +kernel
theorem tyX5_ok : ∀ k, k < 8 → parseFieldDescriptor (TX5 k).2.2.1 = some (tyX5 k) := by decide +kernel
def RX6 : String := "CutsOrFast$Page"
def TX6 : u_T := fun k => match k with
  | 0 => ("CutsOrFast$Page", "codes", "[I", true)
  | 1 => ("CutsOrFast$Page", "used", "I", false)
  | _ => ("CutsOrFast$Page", "lastStep", "I", false)
def tyX6 : Nat → FieldType := fun k => match k with
  | 0 => .array .int
  | 1 => .int
  | _ => .int
theorem nmX6 : ∀ a, a < 3 → ∀ b, b < 3 → a ≠ b → (TX6 a).2.1 ≠ (TX6 b).2.1 := by decide +kernel
theorem tyX6_ok : ∀ k, k < 3 → parseFieldDescriptor (TX6 k).2.2.1 = some (tyX6 k) := by decide +kernel
def RX7 : String := "CutsOrFast$Player"
def TX7 : u_T := fun k => match k with
  | _ => ("", "", "", false)
def tyX7 : Nat → FieldType := fun k => match k with
  | _ => .int
theorem nmX7 : ∀ a, a < 0 → ∀ b, b < 0 → a ≠ b → (TX7 a).2.1 ≠ (TX7 b).2.1 := by decide +kernel
theorem tyX7_ok : ∀ k, k < 0 → parseFieldDescriptor (TX7 k).2.2.1 = some (tyX7 k) := by decide +kernel
def RX8 : String := "CutsOrFast$Search"
def TX8 : u_T := fun k => match k with
  | 0 => ("CutsOrFast$Search", "net", "LCutsOrFast$Net;", true)
  | 1 => ("CutsOrFast$Search", "threes", "[I", true)
  | 2 => ("CutsOrFast$Search", "owners", "[J", true)
  | 3 => ("CutsOrFast$Search", "worths", "[J", true)
  | _ => ("CutsOrFast$Search", "turnsKept", "I", false)
def tyX8 : Nat → FieldType := fun k => match k with
  | 0 => .object "CutsOrFast$Net"
  | 1 => .array .int
  | 2 => .array .long
  | 3 => .array .long
  | _ => .int
theorem nmX8 : ∀ a, a < 5 → ∀ b, b < 5 → a ≠ b → (TX8 a).2.1 ≠ (TX8 b).2.1 := by decide +kernel
theorem tyX8_ok : ∀ k, k < 5 → parseFieldDescriptor (TX8 k).2.2.1 = some (tyX8 k) := by decide +kernel
def RX9 : String := "CutsOrFast$Sets"
def TX9 : u_T := fun k => match k with
  | 0 => ("CutsOrFast$Sets", "net", "LCutsOrFast$Net;", true)
  | _ => ("CutsOrFast$Sets", "search", "LCutsOrFast$Search;", true)
def tyX9 : Nat → FieldType := fun k => match k with
  | 0 => .object "CutsOrFast$Net"
  | _ => .object "CutsOrFast$Search"
theorem nmX9 : ∀ a, a < 2 → ∀ b, b < 2 → a ≠ b → (TX9 a).2.1 ≠ (TX9 b).2.1 := by decide +kernel
theorem tyX9_ok : ∀ k, k < 2 → parseFieldDescriptor (TX9 k).2.2.1 = some (tyX9 k) := by decide +kernel
def RX10 : String := "CutsOrFast$Stand"
def TX10 : u_T := fun k => match k with
  | 0 => ("CutsOrFast$Stand", "net", "LCutsOrFast$Net;", true)
  | 1 => ("CutsOrFast$Stand", "moves", "[I", true)
  | 2 => ("CutsOrFast$Stand", "made", "I", false)
  | 3 => ("CutsOrFast$Stand", "fast", "I", false)
  | 4 => ("CutsOrFast$Stand", "cut", "I", false)
  | _ => ("CutsOrFast$Stand", "mover", "I", false)
def tyX10 : Nat → FieldType := fun k => match k with
  | 0 => .object "CutsOrFast$Net"
  | 1 => .array .int
  | 2 => .int
  | 3 => .int
  | 4 => .int
  | _ => .int
theorem nmX10 : ∀ a, a < 6 → ∀ b, b < 6 → a ≠ b → (TX10 a).2.1 ≠ (TX10 b).2.1 := by decide +kernel
theorem tyX10_ok : ∀ k, k < 6 → parseFieldDescriptor (TX10 k).2.2.1 = some (tyX10 k) := by decide +kernel
def RX11 : String := "CutsOrFast"
def TX11 : u_T := fun k => match k with
  | 0 => ("CutsOrFast", "page", "LCutsOrFast$Page;", true)
  | 1 => ("CutsOrFast", "lanes", "LCutsOrFast$Net;", true)
  | 2 => ("CutsOrFast", "now", "LCutsOrFast$Stand;", true)
  | 3 => ("CutsOrFast", "kept", "LCutsOrFast$Stand;", true)
  | 4 => ("CutsOrFast", "tried", "LCutsOrFast$Stand;", true)
  | 5 => ("CutsOrFast", "search", "LCutsOrFast$Search;", true)
  | 6 => ("CutsOrFast", "sets", "LCutsOrFast$Sets;", true)
  | 7 => ("CutsOrFast", "draws", "LCutsOrFast$Draws;", true)
  | 8 => ("CutsOrFast", "players", "[LCutsOrFast$Player;", true)
  | 9 => ("CutsOrFast", "playersMade", "I", false)
  | 10 => ("CutsOrFast", "netsRead", "I", false)
  | 11 => ("CutsOrFast", "mendsDone", "I", false)
  | _ => ("CutsOrFast", "imageKept", "Z", false)
def tyX11 : Nat → FieldType := fun k => match k with
  | 0 => .object "CutsOrFast$Page"
  | 1 => .object "CutsOrFast$Net"
  | 2 => .object "CutsOrFast$Stand"
  | 3 => .object "CutsOrFast$Stand"
  | 4 => .object "CutsOrFast$Stand"
  | 5 => .object "CutsOrFast$Search"
  | 6 => .object "CutsOrFast$Sets"
  | 7 => .object "CutsOrFast$Draws"
  | 8 => .array (.object "CutsOrFast$Player")
  | 9 => .int
  | 10 => .int
  | 11 => .int
  | _ => .boolean
theorem nmX11 : ∀ a, a < 13 → ∀ b, b < 13 → a ≠ b → (TX11 a).2.1 ≠ (TX11 b).2.1 := by decide +kernel
theorem tyX11_ok : ∀ k, k < 13 → parseFieldDescriptor (TX11 k).2.2.1 = some (tyX11 k) := by decide +kernel
def RX12 : String := "CutsOrFastModel"
def TX12 : u_T := fun k => match k with
  | 0 => ("CutsOrFastModel", "lanes", "I", false)
  | 1 => ("CutsOrFastModel", "nets", "I", false)
  | 2 => ("CutsOrFastModel", "endOne", "I", false)
  | 3 => ("CutsOrFastModel", "endTwo", "I", false)
  | 4 => ("CutsOrFastModel", "laneA", "[I", true)
  | 5 => ("CutsOrFastModel", "laneB", "[I", true)
  | 6 => ("CutsOrFastModel", "laneIs", "[I", true)
  | 7 => ("CutsOrFastModel", "costOf", "[I", true)
  | 8 => ("CutsOrFastModel", "mover", "I", false)
  | 9 => ("CutsOrFastModel", "moves", "I", false)
  | 10 => ("CutsOrFastModel", "moveLane", "[I", true)
  | 11 => ("CutsOrFastModel", "players", "I", false)
  | 12 => ("CutsOrFastModel", "kindOf", "[I", true)
  | 13 => ("CutsOrFastModel", "asks", "I", false)
  | 14 => ("CutsOrFastModel", "pageLength", "I", false)
  | 15 => ("CutsOrFastModel", "page", "[B", true)
  | 16 => ("CutsOrFastModel", "isKept", "Z", false)
  | 17 => ("CutsOrFastModel", "keptNet", "I", false)
  | 18 => ("CutsOrFastModel", "keptMover", "I", false)
  | 19 => ("CutsOrFastModel", "keptMoves", "I", false)
  | 20 => ("CutsOrFastModel", "keptIs", "[I", true)
  | 21 => ("CutsOrFastModel", "keptLane", "[I", true)
  | 22 => ("CutsOrFastModel", "faultAt", "I", false)
  | 23 => ("CutsOrFastModel", "isWhole", "Z", false)
  | 24 => ("CutsOrFastModel", "newMany", "I", false)
  | 25 => ("CutsOrFastModel", "newOne", "I", false)
  | 26 => ("CutsOrFastModel", "newTwo", "I", false)
  | 27 => ("CutsOrFastModel", "newA", "[I", true)
  | 28 => ("CutsOrFastModel", "newB", "[I", true)
  | 29 => ("CutsOrFastModel", "newIs", "[I", true)
  | 30 => ("CutsOrFastModel", "newCost", "[I", true)
  | 31 => ("CutsOrFastModel", "isJoined", "[Z", true)
  | 32 => ("CutsOrFastModel", "opens", "I", false)
  | 33 => ("CutsOrFastModel", "openLane", "[I", true)
  | 34 => ("CutsOrFastModel", "powers", "[I", true)
  | 35 => ("CutsOrFastModel", "fastNow", "I", false)
  | 36 => ("CutsOrFastModel", "joinHas", "[Z", true)
  | 37 => ("CutsOrFastModel", "codeFast", "I", false)
  | 38 => ("CutsOrFastModel", "codeLeft", "I", false)
  | 39 => ("CutsOrFastModel", "codeOpen", "I", false)
  | 40 => ("CutsOrFastModel", "chance", "[I", true)
  | 41 => ("CutsOrFastModel", "whole", "[I", true)
  | 42 => ("CutsOrFastModel", "seedNow", "J", false)
  | 43 => ("CutsOrFastModel", "fromOne", "[I", true)
  | 44 => ("CutsOrFastModel", "fromTwo", "[I", true)
  | 45 => ("CutsOrFastModel", "savedIs", "[I", true)
  | _ => ("CutsOrFastModel", "h", "J", false)
def tyX12 : Nat → FieldType := fun k => match k with
  | 0 => .int
  | 1 => .int
  | 2 => .int
  | 3 => .int
  | 4 => .array .int
  | 5 => .array .int
  | 6 => .array .int
  | 7 => .array .int
  | 8 => .int
  | 9 => .int
  | 10 => .array .int
  | 11 => .int
  | 12 => .array .int
  | 13 => .int
  | 14 => .int
  | 15 => .array .byte
  | 16 => .boolean
  | 17 => .int
  | 18 => .int
  | 19 => .int
  | 20 => .array .int
  | 21 => .array .int
  | 22 => .int
  | 23 => .boolean
  | 24 => .int
  | 25 => .int
  | 26 => .int
  | 27 => .array .int
  | 28 => .array .int
  | 29 => .array .int
  | 30 => .array .int
  | 31 => .array .boolean
  | 32 => .int
  | 33 => .array .int
  | 34 => .array .int
  | 35 => .int
  | 36 => .array .boolean
  | 37 => .int
  | 38 => .int
  | 39 => .int
  | 40 => .array .int
  | 41 => .array .int
  | 42 => .long
  | 43 => .array .int
  | 44 => .array .int
  | 45 => .array .int
  | _ => .long
theorem nmX12 : ∀ a, a < 47 → ∀ b, b < 47 → a ≠ b → (TX12 a).2.1 ≠ (TX12 b).2.1 := by decide +kernel
theorem tyX12_ok : ∀ k, k < 47 → parseFieldDescriptor (TX12 k).2.2.1 = some (tyX12 k) := by decide +kernel
abbrev clsL : List vw_C := [(RX0, TX0, 0), (RX1, TX1, 0), (RX2, TX2, 2), (RX3, TX3, 1), (RX4, TX4, 2), (RX5, TX5, 8), (RX6, TX6, 3), (RX7, TX7, 0), (RX8, TX8, 5), (RX9, TX9, 2), (RX10, TX10, 6), (RX11, TX11, 13), (RX12, TX12, 47)]
def nF : Nat → Nat := fun c => [0, 0, 2, 1, 2, 8, 3, 0, 5, 2, 6, 13, 47].getD c 0
def TT : Nat → u_T := fun c => match c with
  | 0 => TX0
  | 1 => TX1
  | 2 => TX2
  | 3 => TX3
  | 4 => TX4
  | 5 => TX5
  | 6 => TX6
  | 7 => TX7
  | 8 => TX8
  | 9 => TX9
  | 10 => TX10
  | 11 => TX11
  | _ => TX12
def tyT : Nat → Nat → FieldType := fun c => match c with
  | 0 => tyX0
  | 1 => tyX1
  | 2 => tyX2
  | 3 => tyX3
  | 4 => tyX4
  | 5 => tyX5
  | 6 => tyX6
  | 7 => tyX7
  | 8 => tyX8
  | 9 => tyX9
  | 10 => tyX10
  | 11 => tyX11
  | _ => tyX12
def rcl : Nat → String := fun n => ["CutsOrFast$Best", "CutsOrFast$Chance", "CutsOrFast$Dear", "CutsOrFast$Draws", "CutsOrFast$Near", "CutsOrFast$Net", "CutsOrFast$Page", "CutsOrFast$Player", "CutsOrFast$Search", "CutsOrFast$Sets", "CutsOrFast$Stand", "CutsOrFast", "CutsOrFastModel", "CutsOrFastLaw", "java/lang/Integer", "java/lang/Math"].getD n ""
abbrev MI : Type := MethodName × ByteArray × Nat × Option FieldType × Nat × Nat × Bool
def mT0 : List MI := [(⟨"CutsOrFast$Best", "<init>", "()V"⟩, prog_2_method_1_code, 1, none, 0, 0, false),
  (⟨"CutsOrFast$Best", "kind", "()I"⟩, prog_2_method_2_code, 1, (some .int), 0, 0, false),
  (⟨"CutsOrFast$Best", "choose", "(LCutsOrFast$Stand;LCutsOrFast$Search;LCutsOrFast$Draws;)I"⟩, prog_2_method_3_code, 5, (some .int), 0, 3, false),
  (⟨"CutsOrFast$Chance", "<init>", "()V"⟩, prog_3_method_1_code, 1, none, 1, 0, false),
  (⟨"CutsOrFast$Chance", "kind", "()I"⟩, prog_3_method_2_code, 1, (some .int), 1, 0, false),
  (⟨"CutsOrFast$Chance", "choose", "(LCutsOrFast$Stand;LCutsOrFast$Search;LCutsOrFast$Draws;)I"⟩, prog_3_method_3_code, 4, (some .int), 1, 3, false),
  (⟨"CutsOrFast$Dear", "<init>", "()V"⟩, prog_4_method_1_code, 1, none, 2, 0, false),
  (⟨"CutsOrFast$Dear", "kind", "()I"⟩, prog_4_method_2_code, 1, (some .int), 2, 0, false),
  (⟨"CutsOrFast$Dear", "isRather", "(LCutsOrFast$Net;II)Z"⟩, prog_4_method_3_code, 4, (some .boolean), 2, 3, false),
  (⟨"CutsOrFast$Draws", "<init>", "()V"⟩, prog_5_method_1_code, 1, none, 3, 0, false),
  (⟨"CutsOrFast$Draws", "start", "(I)V"⟩, prog_5_method_2_code, 2, none, 3, 1, false),
  (⟨"CutsOrFast$Draws", "next", "(I)I"⟩, prog_5_method_3_code, 2, (some .int), 3, 1, false),
  (⟨"CutsOrFast$Draws", "seedNow", "()I"⟩, prog_5_method_4_code, 1, (some .int), 3, 0, false),
  (⟨"CutsOrFast$Near", "<init>", "()V"⟩, prog_6_method_1_code, 1, none, 4, 0, false),
  (⟨"CutsOrFast$Near", "kind", "()I"⟩, prog_6_method_2_code, 1, (some .int), 4, 0, false),
  (⟨"CutsOrFast$Near", "choose", "(LCutsOrFast$Stand;LCutsOrFast$Search;LCutsOrFast$Draws;)I"⟩, prog_6_method_3_code, 8, (some .int), 4, 3, false),
  (⟨"CutsOrFast$Near", "isRather", "(LCutsOrFast$Net;II)Z"⟩, prog_6_method_4_code, 4, (some .boolean), 4, 3, false),
  (⟨"CutsOrFast$Near", "lengthOver", "(LCutsOrFast$Net;I)I"⟩, prog_6_method_5_code, 7, (some .int), 4, 2, false),
  (⟨"CutsOrFast$Near", "measure", "([IILCutsOrFast$Stand;)V"⟩, prog_6_method_6_code, 4, none, 4, 3, true),
  (⟨"CutsOrFast$Near", "shorten", "([ILCutsOrFast$Stand;)V"⟩, prog_6_method_7_code, 8, none, 4, 2, true),
  (⟨"CutsOrFast$Net", "<init>", "()V"⟩, prog_7_method_1_code, 1, none, 5, 0, false),
  (⟨"CutsOrFast$Net", "start", "(II)V"⟩, prog_7_method_2_code, 3, none, 5, 2, false),
  (⟨"CutsOrFast$Net", "add", "(III)V"⟩, prog_7_method_3_code, 6, none, 5, 3, false),
  (⟨"CutsOrFast$Net", "dropLast", "()V"⟩, prog_7_method_4_code, 1, none, 5, 0, false),
  (⟨"CutsOrFast$Net", "spread", "(II)I"⟩, prog_7_method_5_code, 6, (some .int), 5, 2, false),
  (⟨"CutsOrFast$Net", "spreadOnce", "(II)I"⟩, prog_7_method_6_code, 6, (some .int), 5, 2, false),
  (⟨"CutsOrFast$Net", "size", "()I"⟩, prog_7_method_7_code, 1, (some .int), 5, 0, false),
  (⟨"CutsOrFast$Net", "all", "()I"⟩, prog_7_method_8_code, 1, (some .int), 5, 0, false),
  (⟨"CutsOrFast$Net", "oneEnd", "()I"⟩, prog_7_method_9_code, 1, (some .int), 5, 0, false),
  (⟨"CutsOrFast$Net", "otherEnd", "()I"⟩, prog_7_method_10_code, 1, (some .int), 5, 0, false),
  (⟨"CutsOrFast$Net", "firstPlace", "(I)I"⟩, prog_7_method_11_code, 2, (some .int), 5, 1, false),
  (⟨"CutsOrFast$Net", "secondPlace", "(I)I"⟩, prog_7_method_12_code, 2, (some .int), 5, 1, false),
  (⟨"CutsOrFast$Net", "costOf", "(I)I"⟩, prog_7_method_13_code, 2, (some .int), 5, 1, false),
  (⟨"CutsOrFast$Net", "costOfSet", "(I)I"⟩, prog_7_method_14_code, 4, (some .int), 5, 1, false),
  (⟨"CutsOrFast$Net", "joins", "(I)Z"⟩, prog_7_method_15_code, 2, (some .boolean), 5, 1, false),
  (⟨"CutsOrFast$Net", "placesInUse", "()I"⟩, prog_7_method_16_code, 3, (some .int), 5, 0, false),
  (⟨"CutsOrFast$Net", "spans", "(II)Z"⟩, prog_7_method_17_code, 3, (some .boolean), 5, 2, false),
  (⟨"CutsOrFast$Net", "outcome", "(II)I"⟩, prog_7_method_18_code, 3, (some .int), 5, 2, false),
  (⟨"CutsOrFast$Page", "<init>", "()V"⟩, prog_8_method_1_code, 1, none, 6, 0, false),
  (⟨"CutsOrFast$Page", "size", "()I"⟩, prog_8_method_2_code, 1, (some .int), 6, 0, false),
  (⟨"CutsOrFast$Page", "clear", "()V"⟩, prog_8_method_3_code, 1, none, 6, 0, false),
  (⟨"CutsOrFast$Page", "codeAt", "(I)I"⟩, prog_8_method_4_code, 2, (some .int), 6, 1, false),
  (⟨"CutsOrFast$Page", "append", "(J)I"⟩, prog_8_method_5_code, 7, (some .int), 6, 1, false),
  (⟨"CutsOrFast$Page", "byteOf", "(JI)I"⟩, prog_8_method_6_code, 3, (some .int), 6, 2, true),
  (⟨"CutsOrFast$Page", "isNet", "()Z"⟩, prog_8_method_7_code, 1, (some .boolean), 6, 0, false),
  (⟨"CutsOrFast$Page", "soundLetters", "()I"⟩, prog_8_method_8_code, 5, (some .int), 6, 0, false),
  (⟨"CutsOrFast$Page", "step", "(IIII)I"⟩, prog_8_method_9_code, 4, (some .int), 6, 4, true),
  (⟨"CutsOrFast$Page", "stepBehindPair", "(III)I"⟩, prog_8_method_10_code, 3, (some .int), 6, 3, true),
  (⟨"CutsOrFast$Page", "isPlace", "(I)Z"⟩, prog_8_method_11_code, 1, (some .boolean), 6, 1, true),
  (⟨"CutsOrFast$Page", "isCost", "(I)Z"⟩, prog_8_method_12_code, 1, (some .boolean), 6, 1, true)]
def mT1 : List MI := [(⟨"CutsOrFast$Page", "readInto", "(LCutsOrFast$Net;LCutsOrFast$Stand;)V"⟩, prog_8_method_13_code, 10, none, 6, 2, false),
  (⟨"CutsOrFast$Player", "<init>", "()V"⟩, prog_9_method_1_code, 1, none, 7, 0, false),
  (⟨"CutsOrFast$Player", "kind", "()I"⟩, prog_9_method_2_code, 1, (some .int), 7, 0, false),
  (⟨"CutsOrFast$Player", "choose", "(LCutsOrFast$Stand;LCutsOrFast$Search;LCutsOrFast$Draws;)I"⟩, prog_9_method_3_code, 4, (some .int), 7, 3, false),
  (⟨"CutsOrFast$Search", "<init>", "(LCutsOrFast$Net;)V"⟩, prog_10_method_1_code, 6, none, 8, 1, false),
  (⟨"CutsOrFast$Search", "forget", "()V"⟩, prog_10_method_2_code, 1, none, 8, 0, false),
  (⟨"CutsOrFast$Search", "empty", "([J)V"⟩, prog_10_method_3_code, 2, none, 8, 1, true),
  (⟨"CutsOrFast$Search", "ownerOf", "(IIII)I"⟩, prog_10_method_8_code, 11, (some .int), 8, 4, false),
  (⟨"CutsOrFast$Search", "owner", "(III)I"⟩, prog_10_method_6_code, 4, (some .int), 8, 3, false),
  (⟨"CutsOrFast$Search", "leastGood", "(III)I"⟩, prog_10_method_7_code, 4, (some .int), 8, 3, false),
  (⟨"CutsOrFast$Search", "worth", "(IIII)I"⟩, prog_10_method_10_code, 7, (some .int), 8, 4, false),
  (⟨"CutsOrFast$Search", "worthOf", "(IIIII)I"⟩, prog_10_method_11_code, 10, (some .int), 8, 5, false),
  (⟨"CutsOrFast$Search", "ownersMove", "(IIII)I"⟩, prog_10_method_9_code, 9, (some .int), 8, 4, false),
  (⟨"CutsOrFast$Search", "movesByChance", "(II)Z"⟩, prog_10_method_12_code, 2, (some .boolean), 8, 2, true),
  (⟨"CutsOrFast$Search", "worthByMoves", "(IIIII)I"⟩, prog_10_method_13_code, 12, (some .int), 8, 5, false),
  (⟨"CutsOrFast$Sets", "<init>", "(LCutsOrFast$Net;LCutsOrFast$Search;)V"⟩, prog_11_method_1_code, 3, none, 9, 2, false),
  (⟨"CutsOrFast$Sets", "twoWays", "(II)I"⟩, prog_11_method_2_code, 7, (some .int), 9, 2, false),
  (⟨"CutsOrFast$Sets", "fewestCuts", "(II)I"⟩, prog_11_method_3_code, 9, (some .int), 9, 2, false),
  (⟨"CutsOrFast$Sets", "cheapest", "(II)I"⟩, prog_11_method_4_code, 8, (some .int), 9, 2, false),
  (⟨"CutsOrFast$Sets", "oneMore", "(II)I"⟩, prog_11_method_5_code, 5, (some .int), 9, 2, false),
  (⟨"CutsOrFast$Sets", "mends", "(IIII)Z"⟩, prog_11_method_6_code, 6, (some .boolean), 9, 4, false),
  (⟨"CutsOrFast$Stand", "<init>", "(LCutsOrFast$Net;)V"⟩, prog_12_method_1_code, 2, none, 10, 1, false),
  (⟨"CutsOrFast$Stand", "start", "(II)V"⟩, prog_12_method_2_code, 3, none, 10, 2, false),
  (⟨"CutsOrFast$Stand", "copyFrom", "(LCutsOrFast$Stand;)V"⟩, prog_12_method_3_code, 3, none, 10, 1, false),
  (⟨"CutsOrFast$Stand", "play", "(I)V"⟩, prog_12_method_4_code, 2, none, 10, 1, false),
  (⟨"CutsOrFast$Stand", "undo", "()V"⟩, prog_12_method_5_code, 2, none, 10, 0, false),
  (⟨"CutsOrFast$Stand", "undoAll", "()V"⟩, prog_12_method_6_code, 2, none, 10, 0, false),
  (⟨"CutsOrFast$Stand", "outcome", "()I"⟩, prog_12_method_7_code, 1, (some .int), 10, 0, false),
  (⟨"CutsOrFast$Stand", "stateOf", "(I)I"⟩, prog_12_method_8_code, 3, (some .int), 10, 1, false),
  (⟨"CutsOrFast$Stand", "itsNet", "()LCutsOrFast$Net;"⟩, prog_12_method_9_code, 1, (some (.object "CutsOrFast$Net")), 10, 0, false),
  (⟨"CutsOrFast$Stand", "movesMade", "()I"⟩, prog_12_method_10_code, 1, (some .int), 10, 0, false),
  (⟨"CutsOrFast$Stand", "moveAt", "(I)I"⟩, prog_12_method_11_code, 2, (some .int), 10, 1, false),
  (⟨"CutsOrFast$Stand", "side", "()I"⟩, prog_12_method_12_code, 1, (some .int), 10, 0, false),
  (⟨"CutsOrFast$Stand", "setSide", "(I)V"⟩, prog_12_method_13_code, 2, none, 10, 1, false),
  (⟨"CutsOrFast$Stand", "fastSet", "()I"⟩, prog_12_method_14_code, 1, (some .int), 10, 0, false),
  (⟨"CutsOrFast$Stand", "cutSet", "()I"⟩, prog_12_method_15_code, 1, (some .int), 10, 0, false),
  (⟨"CutsOrFast$Stand", "openSet", "()I"⟩, prog_12_method_16_code, 1, (some .int), 10, 0, false),
  (⟨"CutsOrFast$Stand", "openLane", "(I)I"⟩, prog_12_method_17_code, 4, (some .int), 10, 1, false),
  (⟨"CutsOrFast", "<init>", "()V"⟩, prog_1_method_1_code, 1, none, 11, 0, false),
  (⟨"CutsOrFast", "letters", "(J)I"⟩, prog_1_method_2_code, 3, (some .int), 11, 1, false),
  (⟨"CutsOrFast", "blank", "()I"⟩, prog_1_method_3_code, 2, (some .int), 11, 0, false),
  (⟨"CutsOrFast", "fault", "()I"⟩, prog_1_method_4_code, 1, (some .int), 11, 0, false),
  (⟨"CutsOrFast", "net", "()I"⟩, prog_1_method_5_code, 1, (some .int), 11, 0, false),
  (⟨"CutsOrFast", "lane", "(II)I"⟩, prog_1_method_6_code, 3, (some .int), 11, 2, false),
  (⟨"CutsOrFast", "status", "()I"⟩, prog_1_method_7_code, 1, (some .int), 11, 0, false),
  (⟨"CutsOrFast", "begin", "(I)I"⟩, prog_1_method_8_code, 3, (some .int), 11, 1, false),
  (⟨"CutsOrFast", "take", "(I)I"⟩, prog_1_method_9_code, 2, (some .int), 11, 1, false),
  (⟨"CutsOrFast", "back", "()I"⟩, prog_1_method_10_code, 1, (some .int), 11, 0, false),
  (⟨"CutsOrFast", "whose", "(I)I"⟩, prog_1_method_11_code, 2, (some .int), 11, 1, false),
  (⟨"CutsOrFast", "by", "(I)I"⟩, prog_1_method_12_code, 2, (some .int), 11, 1, false)]
def mT2 : List MI := [(⟨"CutsOrFast", "answer", "(I)I"⟩, prog_1_method_13_code, 2, (some .int), 11, 1, false),
  (⟨"CutsOrFast", "lost", "()I"⟩, prog_1_method_14_code, 4, (some .int), 11, 0, false),
  (⟨"CutsOrFast", "ways", "()I"⟩, prog_1_method_15_code, 1, (some .int), 11, 0, false),
  (⟨"CutsOrFast", "parting", "(I)I"⟩, prog_1_method_16_code, 3, (some .int), 11, 1, false),
  (⟨"CutsOrFast", "mend", "(I)I"⟩, prog_1_method_17_code, 3, (some .int), 11, 1, false),
  (⟨"CutsOrFast", "bought", "(I)I"⟩, prog_1_method_18_code, 3, (some .int), 11, 1, false),
  (⟨"CutsOrFast", "likely", "(II)I"⟩, prog_1_method_19_code, 6, (some .int), 11, 2, false),
  (⟨"CutsOrFast", "player", "(I)I"⟩, prog_1_method_20_code, 2, (some .int), 11, 1, false),
  (⟨"CutsOrFast", "as", "(II)I"⟩, prog_1_method_21_code, 4, (some .int), 11, 2, false),
  (⟨"CutsOrFast", "move", "(II)I"⟩, prog_1_method_22_code, 4, (some .int), 11, 2, false),
  (⟨"CutsOrFast", "game", "(IIII)I"⟩, prog_1_method_23_code, 8, (some .int), 11, 4, false),
  (⟨"CutsOrFast", "image", "()I"⟩, prog_1_method_24_code, 1, (some .int), 11, 0, false),
  (⟨"CutsOrFast", "restore", "()I"⟩, prog_1_method_25_code, 1, (some .int), 11, 0, false),
  (⟨"CutsOrFast", "count", "(I)I"⟩, prog_1_method_26_code, 2, (some .int), 11, 1, false),
  (⟨"CutsOrFast", "digest", "()J"⟩, prog_1_method_27_code, 5, (some .long), 11, 0, false),
  (⟨"CutsOrFast", "hasNet", "()Z"⟩, prog_1_method_28_code, 1, (some .boolean), 11, 0, false),
  (⟨"CutsOrFast", "isLane", "(I)Z"⟩, prog_1_method_29_code, 2, (some .boolean), 11, 1, false),
  (⟨"CutsOrFast", "isSide", "(I)Z"⟩, prog_1_method_30_code, 1, (some .boolean), 11, 1, true),
  (⟨"CutsOrFast", "isKind", "(I)Z"⟩, prog_1_method_31_code, 1, (some .boolean), 11, 1, true),
  (⟨"CutsOrFast", "canBeTaken", "(I)Z"⟩, prog_1_method_32_code, 2, (some .boolean), 11, 1, false),
  (⟨"CutsOrFast", "playerAt", "(I)LCutsOrFast$Player;"⟩, prog_1_method_33_code, 2, (some (.object "CutsOrFast$Player")), 11, 1, false),
  (⟨"CutsOrFast", "newPlayer", "(I)LCutsOrFast$Player;"⟩, prog_1_method_34_code, 1, (some (.object "CutsOrFast$Player")), 11, 1, true),
  (⟨"CutsOrFast", "isOfKind", "(LCutsOrFast$Player;I)Z"⟩, prog_1_method_35_code, 2, (some .boolean), 11, 2, true),
  (⟨"CutsOrFast", "playOut", "(LCutsOrFast$Player;LCutsOrFast$Player;)I"⟩, prog_1_method_36_code, 5, (some .int), 11, 2, false),
  (⟨"CutsOrFast", "factorial", "(I)I"⟩, prog_1_method_37_code, 1, (some .int), 11, 1, true),
  (⟨"CutsOrFast", "greatestDivisor", "(II)I"⟩, prog_1_method_38_code, 6, (some .int), 11, 2, true),
  (⟨"CutsOrFast", "at", "([II)I"⟩, prog_1_method_39_code, 2, (some .int), 11, 2, true),
  (⟨"CutsOrFast", "put", "([III)V"⟩, prog_1_method_41_code, 3, none, 11, 3, true),
  (⟨"CutsOrFastModel", "<init>", "()V"⟩, prog_14_method_1_code, 1, none, 12, 0, false),
  (⟨"CutsOrFastModel", "within", "(III)Z"⟩, prog_14_method_3_code, 3, (some .boolean), 12, 3, true),
  (⟨"CutsOrFastModel", "has", "(II)Z"⟩, prog_14_method_4_code, 2, (some .boolean), 12, 2, true),
  (⟨"CutsOrFastModel", "letters", "(J)I"⟩, prog_14_method_5_code, 7, (some .int), 12, 1, false),
  (⟨"CutsOrFastModel", "blank", "()I"⟩, prog_14_method_6_code, 2, (some .int), 12, 0, false),
  (⟨"CutsOrFastModel", "nextState", "(II)I"⟩, prog_14_method_7_code, 5, (some .int), 12, 2, false),
  (⟨"CutsOrFastModel", "behindLane", "(II)I"⟩, prog_14_method_8_code, 3, (some .int), 12, 2, false),
  (⟨"CutsOrFastModel", "readNet", "()V"⟩, prog_14_method_9_code, 5, none, 12, 0, false),
  (⟨"CutsOrFastModel", "fault", "()I"⟩, prog_14_method_10_code, 1, (some .int), 12, 0, false),
  (⟨"CutsOrFastModel", "net", "()I"⟩, prog_14_method_11_code, 2, (some .int), 12, 0, false),
  (⟨"CutsOrFastModel", "isLaneNumber", "(I)Z"⟩, prog_14_method_12_code, 2, (some .boolean), 12, 1, false),
  (⟨"CutsOrFastModel", "laneNow", "(II)I"⟩, prog_14_method_13_code, 3, (some .int), 12, 2, false),
  (⟨"CutsOrFastModel", "lane", "(II)I"⟩, prog_14_method_14_code, 3, (some .int), 12, 2, false),
  (⟨"CutsOrFastModel", "reached", "(III)I"⟩, prog_14_method_15_code, 9, (some .int), 12, 3, false),
  (⟨"CutsOrFastModel", "joins", "(II)Z"⟩, prog_14_method_16_code, 3, (some .boolean), 12, 2, false),
  (⟨"CutsOrFastModel", "setOf", "(I)I"⟩, prog_14_method_17_code, 4, (some .int), 12, 1, false),
  (⟨"CutsOrFastModel", "statusNow", "()I"⟩, prog_14_method_18_code, 1, (some .int), 12, 0, false),
  (⟨"CutsOrFastModel", "status", "()I"⟩, prog_14_method_19_code, 1, (some .int), 12, 0, false),
  (⟨"CutsOrFastModel", "layOpens", "(I)V"⟩, prog_14_method_20_code, 3, none, 12, 1, false),
  (⟨"CutsOrFastModel", "readCode", "(I)V"⟩, prog_14_method_21_code, 5, none, 12, 1, false),
  (⟨"CutsOrFastModel", "figure", "(II)I"⟩, prog_14_method_22_code, 2, (some .int), 12, 2, true),
  (⟨"CutsOrFastModel", "hasBy", "(II)Z"⟩, prog_14_method_23_code, 7, (some .boolean), 12, 2, false)]
def mT3 : List MI := [(⟨"CutsOrFastModel", "laySolved", "(I)V"⟩, prog_14_method_24_code, 6, none, 12, 1, false),
  (⟨"CutsOrFastModel", "isSide", "(I)Z"⟩, prog_14_method_25_code, 1, (some .boolean), 12, 1, true),
  (⟨"CutsOrFastModel", "whose", "(I)I"⟩, prog_14_method_26_code, 2, (some .int), 12, 1, false),
  (⟨"CutsOrFastModel", "byFrom", "(II)I"⟩, prog_14_method_27_code, 5, (some .int), 12, 2, false),
  (⟨"CutsOrFastModel", "byNow", "(I)I"⟩, prog_14_method_28_code, 2, (some .int), 12, 1, false),
  (⟨"CutsOrFastModel", "by", "(I)I"⟩, prog_14_method_29_code, 2, (some .int), 12, 1, false),
  (⟨"CutsOrFastModel", "begin", "(I)I"⟩, prog_14_method_30_code, 3, (some .int), 12, 1, false),
  (⟨"CutsOrFastModel", "take", "(I)I"⟩, prog_14_method_31_code, 2, (some .int), 12, 1, false),
  (⟨"CutsOrFastModel", "back", "()I"⟩, prog_14_method_32_code, 1, (some .int), 12, 0, false),
  (⟨"CutsOrFastModel", "answer", "(I)I"⟩, prog_14_method_33_code, 3, (some .int), 12, 1, false),
  (⟨"CutsOrFastModel", "lostNow", "()I"⟩, prog_14_method_34_code, 10, (some .int), 12, 0, false),
  (⟨"CutsOrFastModel", "placeOf", "(I)I"⟩, prog_14_method_35_code, 3, (some .int), 12, 1, false),
  (⟨"CutsOrFastModel", "lost", "()I"⟩, prog_14_method_36_code, 1, (some .int), 12, 0, false),
  (⟨"CutsOrFastModel", "waysNow", "()I"⟩, prog_14_method_37_code, 6, (some .int), 12, 0, false),
  (⟨"CutsOrFastModel", "ways", "()I"⟩, prog_14_method_38_code, 1, (some .int), 12, 0, false),
  (⟨"CutsOrFastModel", "size", "(I)I"⟩, prog_14_method_39_code, 3, (some .int), 12, 1, true),
  (⟨"CutsOrFastModel", "partingNow", "(I)I"⟩, prog_14_method_40_code, 6, (some .int), 12, 1, false),
  (⟨"CutsOrFastModel", "parting", "(I)I"⟩, prog_14_method_41_code, 2, (some .int), 12, 1, false),
  (⟨"CutsOrFastModel", "isMendedBy", "(II)Z"⟩, prog_14_method_42_code, 3, (some .boolean), 12, 2, false),
  (⟨"CutsOrFastModel", "mendNow", "(I)I"⟩, prog_14_method_43_code, 4, (some .int), 12, 1, false),
  (⟨"CutsOrFastModel", "mend", "(I)I"⟩, prog_14_method_44_code, 2, (some .int), 12, 1, false),
  (⟨"CutsOrFastModel", "boughtNow", "(I)I"⟩, prog_14_method_45_code, 9, (some .int), 12, 1, false),
  (⟨"CutsOrFastModel", "bought", "(I)I"⟩, prog_14_method_46_code, 2, (some .int), 12, 1, false),
  (⟨"CutsOrFastModel", "isAny", "(II)Z"⟩, prog_14_method_47_code, 2, (some .boolean), 12, 2, true),
  (⟨"CutsOrFastModel", "layWholes", "(I)V"⟩, prog_14_method_48_code, 4, none, 12, 1, false),
  (⟨"CutsOrFastModel", "chanceBy", "(III)I"⟩, prog_14_method_49_code, 9, (some .int), 12, 3, false),
  (⟨"CutsOrFastModel", "lowest", "(III)I"⟩, prog_14_method_50_code, 6, (some .int), 12, 3, true),
  (⟨"CutsOrFastModel", "likelyNow", "(II)I"⟩, prog_14_method_51_code, 8, (some .int), 12, 2, false),
  (⟨"CutsOrFastModel", "likely", "(II)I"⟩, prog_14_method_52_code, 3, (some .int), 12, 2, false),
  (⟨"CutsOrFastModel", "player", "(I)I"⟩, prog_14_method_53_code, 2, (some .int), 12, 1, false),
  (⟨"CutsOrFastModel", "isPlayer", "(I)Z"⟩, prog_14_method_54_code, 2, (some .boolean), 12, 1, false),
  (⟨"CutsOrFastModel", "as", "(II)I"⟩, prog_14_method_55_code, 4, (some .int), 12, 2, false),
  (⟨"CutsOrFastModel", "draw", "(I)I"⟩, prog_14_method_56_code, 2, (some .int), 12, 1, false),
  (⟨"CutsOrFastModel", "nthOpen", "(I)I"⟩, prog_14_method_57_code, 4, (some .int), 12, 1, false),
  (⟨"CutsOrFastModel", "layFar", "()V"⟩, prog_14_method_58_code, 6, none, 12, 0, false),
  (⟨"CutsOrFastModel", "isNear", "(I)Z"⟩, prog_14_method_59_code, 4, (some .boolean), 12, 1, false),
  (⟨"CutsOrFastModel", "nearest", "(Z)I"⟩, prog_14_method_60_code, 5, (some .int), 12, 1, false),
  (⟨"CutsOrFastModel", "openMany", "()I"⟩, prog_14_method_61_code, 1, (some .int), 12, 0, false),
  (⟨"CutsOrFastModel", "takes", "(II)I"⟩, prog_14_method_62_code, 4, (some .int), 12, 2, false),
  (⟨"CutsOrFastModel", "move", "(II)I"⟩, prog_14_method_63_code, 3, (some .int), 12, 2, false),
  (⟨"CutsOrFastModel", "playOut", "(III)I"⟩, prog_14_method_64_code, 8, (some .int), 12, 3, false),
  (⟨"CutsOrFastModel", "game", "(IIII)I"⟩, prog_14_method_65_code, 5, (some .int), 12, 4, false),
  (⟨"CutsOrFastModel", "image", "()I"⟩, prog_14_method_66_code, 2, (some .int), 12, 0, false),
  (⟨"CutsOrFastModel", "restore", "()I"⟩, prog_14_method_67_code, 2, (some .int), 12, 0, false),
  (⟨"CutsOrFastModel", "howMany", "(I)I"⟩, prog_14_method_68_code, 2, (some .int), 12, 1, false),
  (⟨"CutsOrFastModel", "count", "(I)I"⟩, prog_14_method_69_code, 2, (some .int), 12, 1, false),
  (⟨"CutsOrFastModel", "mix", "(J)V"⟩, prog_14_method_70_code, 3, none, 12, 1, false),
  (⟨"CutsOrFastModel", "mixNet", "()V"⟩, prog_14_method_71_code, 2, none, 12, 0, false),
  (⟨"CutsOrFastModel", "digest", "()J"⟩, prog_14_method_72_code, 3, (some .long), 12, 0, false),
  (⟨"java/lang/Integer", "bitCount", "(I)I"⟩, prog_15_method_49_code, 1, (some .int), 14, 1, true)]
def mT4 : List MI := [(⟨"CutsOrFast$Search", "openSet", "(II)I"⟩, prog_10_method_4_code, 3, (some .int), 8, 2, false),
  (⟨"CutsOrFast$Search", "standOf", "(II)I"⟩, prog_10_method_5_code, 3, (some .int), 8, 2, false),
  (⟨"CutsOrFast", "at", "([JI)J"⟩, prog_1_method_40_code, 2, (some .long), 11, 2, true),
  (⟨"CutsOrFast", "put", "([JIJ)V"⟩, prog_1_method_42_code, 4, none, 11, 3, true),
  (⟨"CutsOrFastLaw", "law", "([I)Z"⟩, code, 4, (some .boolean), 13, 1, true)]
def mTab : List MI := mT0 ++ mT1 ++ mT2 ++ mT3 ++ mT4
def mI (k : Nat) : MI := mTab.getD k (⟨"", "", ""⟩, ⟨#[]⟩, 0, none, 0, 0, false)
def mName (k : Nat) : MethodName := (mI k).1
def mCode (k : Nat) : ByteArray := (mI k).2.1
def mMax (k : Nat) : Nat := (mI k).2.2.1
def mRet (k : Nat) : Option FieldType := (mI k).2.2.2.1
def mOwn (k : Nat) : Nat := (mI k).2.2.2.2.1
def mArg (k : Nat) : Nat := (mI k).2.2.2.2.2.1
def cPos : List Nat := [620, 798, 683, 652, 801, 696, 643, 804, 746, 195, 676, 702, 764, 630, 807, 710, 748, 739, 721, 725, 97, 309, 318, 552, 323, 327, 314, 387, 718, 735, 351, 355, 363, 564, 383, 518, 522, 379, 80, 263, 267, 279, 250, 253, 300, 275, 283, 289, 286, 292, 305, 623, 808, 751, 153, 335, 338, 459, 444, 483, 573, 577, 471, 596, 587, 182, 513, 530, 560, 541, 546, 128, 331, 496, 418, 427, 500, 375, 359, 714, 398, 505, 402, 406, 436, 440, 600, 691, 72, 246, 259, 271, 296, 343, 367, 391, 410, 423, 432, 479, 488, 492, 509, 526, 537, 556, 569, 609, 661, 672, 756, 768, 772, 776, 780, 371, 347, 394, 612, 414, 665, 615, 668, 760, 580, 605, 157, 160, 815, 986, 1029, 966, 971, 983, 990, 979, 975, 994, 1002, 1006, 998, 1026, 1022, 1018, 1014, 1010, 1044, 1048, 1055, 1052, 1040, 1036, 1033, 1067, 1063, 1059, 1071, 1075, 1079, 1083, 1091, 1095, 1087, 1103, 1099, 1114, 1111, 1107, 1126, 1122, 1118, 1134, 1130, 1150, 1147, 1154, 1158, 1143, 1139, 1162, 1170, 1166, 1202, 1182, 1190, 1194, 1186, 1198, 1178, 1174, 1214, 1210, 1218, 1222, 1230, 1226, 1239, 1244, 1234, 452, 448, 464, 467, 475]
def iPos : List Nat := [64, 67, 66, 59, 65, 55, 54, 63, 57, 58, 56, 53, 60, 52, 61, 62]
def selLO : Jvm.Cond := .selects "CutsOrFast$Dear" ⟨"CutsOrFast$Near", "lengthOver", "(LCutsOrFast$Net;I)I"⟩ ⟨"CutsOrFast$Near", "lengthOver", "(LCutsOrFast$Net;I)I"⟩
def tblX : List Jvm.Cond := lw_tbl ++ [selLO]
def tAt (i : Nat) (w : Jvm.Cond) : Bool := decide (tblX[i]? = some w) && goodWord w
def tblG : List Jvm.Cond := tblX.filter goodWord
def wCode (k : Nat) : Jvm.Cond := .code (mName k) (mCode k) (mMax k) (mRet k)
theorem tAt_in {i : Nat} {w : Jvm.Cond} (h : tAt i w = true) : w ∈ tblG := by
  unfold tAt at h
  rw [Bool.and_eq_true] at h
  exact List.mem_filter.mpr ⟨List.mem_of_getElem? (of_decide_eq_true h.1), h.2⟩
def mChk (k : Nat) : Bool := tAt (iPos.getD (mOwn k) 0) (.initialized (mName k).cls) && decide (rcl (mOwn k) = (mName k).cls) && decide ((mName k).cls ≠ "java/lang/invoke/MethodHandle") && decide ((mName k).cls ≠ "java/lang/invoke/VarHandle") && decide ((parseMethodDescriptor (mName k).desc).map (fun d => d.parameters.length) = some (mArg k)) && plainName (mName k).cls
theorem mChk_0 : ∀ k, k < 50 → mChk (k + 0) = true := by decide +kernel
theorem mChk_50 : ∀ k, k < 50 → mChk (k + 50) = true := by decide +kernel
theorem mChk_100 : ∀ k, k < 50 → mChk (k + 100) = true := by decide +kernel
theorem mChk_150 : ∀ k, k < 50 → mChk (k + 150) = true := by decide +kernel
theorem mChk_200 : ∀ k, k < 4 → mChk (k + 200) = true := by decide +kernel
theorem mChk_all : ∀ k, k < 204 → mChk k = true := by
  intro k hk
  rcases Nat.lt_or_ge k 50 with h0 | h0
  · have := mChk_0 (k - 0) (by omega)
    rwa [Nat.sub_add_cancel (by omega)] at this
  rcases Nat.lt_or_ge k 100 with h1 | h1
  · have := mChk_50 (k - 50) (by omega)
    rwa [Nat.sub_add_cancel (by omega)] at this
  rcases Nat.lt_or_ge k 150 with h2 | h2
  · have := mChk_100 (k - 100) (by omega)
    rwa [Nat.sub_add_cancel (by omega)] at this
  rcases Nat.lt_or_ge k 200 with h3 | h3
  · have := mChk_150 (k - 150) (by omega)
    rwa [Nat.sub_add_cancel (by omega)] at this
  have := mChk_200 (k - 200) (by omega)
  rwa [Nat.sub_add_cancel (by omega)] at this
theorem cw_0 : wCode 0 ∈ tables_1 := List.mem_append_right _ (List.mem_append_right _ (List.mem_append_left _ (List.mem_of_getElem? (i := 88) rfl)))
theorem ca_0 : ∀ a, a < 1 → wCode a ∈ tables_1 := lt_s (lt_0 (p := fun a => wCode a ∈ tables_1)) cw_0
theorem cw_1 : wCode 1 ∈ tables_1 := List.mem_append_right _ (List.mem_append_right _ (List.mem_append_right _ (List.mem_append_left _ (List.mem_of_getElem? (i := 26) rfl))))
theorem ca_1 : ∀ a, a < 2 → wCode a ∈ tables_1 := lt_s ca_0 cw_1
theorem cw_2 : wCode 2 ∈ tables_1 := List.mem_append_right _ (List.mem_append_right _ (List.mem_append_left _ (List.mem_of_getElem? (i := 151) rfl)))
theorem ca_2 : ∀ a, a < 3 → wCode a ∈ tables_1 := lt_s ca_1 cw_2
theorem cw_3 : wCode 3 ∈ tables_1 := List.mem_append_right _ (List.mem_append_right _ (List.mem_append_left _ (List.mem_of_getElem? (i := 120) rfl)))
theorem ca_3 : ∀ a, a < 4 → wCode a ∈ tables_1 := lt_s ca_2 cw_3
theorem cw_4 : wCode 4 ∈ tables_1 := List.mem_append_right _ (List.mem_append_right _ (List.mem_append_right _ (List.mem_append_left _ (List.mem_of_getElem? (i := 29) rfl))))
theorem ca_4 : ∀ a, a < 5 → wCode a ∈ tables_1 := lt_s ca_3 cw_4
theorem cw_5 : wCode 5 ∈ tables_1 := List.mem_append_right _ (List.mem_append_right _ (List.mem_append_left _ (List.mem_of_getElem? (i := 164) rfl)))
theorem ca_5 : ∀ a, a < 6 → wCode a ∈ tables_1 := lt_s ca_4 cw_5
theorem cw_6 : wCode 6 ∈ tables_1 := List.mem_append_right _ (List.mem_append_right _ (List.mem_append_left _ (List.mem_of_getElem? (i := 111) rfl)))
theorem ca_6 : ∀ a, a < 7 → wCode a ∈ tables_1 := lt_s ca_5 cw_6
theorem cw_7 : wCode 7 ∈ tables_1 := List.mem_append_right _ (List.mem_append_right _ (List.mem_append_right _ (List.mem_append_left _ (List.mem_of_getElem? (i := 32) rfl))))
theorem ca_7 : ∀ a, a < 8 → wCode a ∈ tables_1 := lt_s ca_6 cw_7
theorem cw_8 : wCode 8 ∈ tables_1 := List.mem_append_right _ (List.mem_append_right _ (List.mem_append_left _ (List.mem_of_getElem? (i := 214) rfl)))
theorem ca_8 : ∀ a, a < 9 → wCode a ∈ tables_1 := lt_s ca_7 cw_8
theorem cw_9 : wCode 9 ∈ tables_1 := List.mem_append_left _ (List.mem_of_getElem? (i := 143) rfl)
theorem ca_9 : ∀ a, a < 10 → wCode a ∈ tables_1 := lt_s ca_8 cw_9
theorem cw_10 : wCode 10 ∈ tables_1 := List.mem_append_right _ (List.mem_append_right _ (List.mem_append_left _ (List.mem_of_getElem? (i := 144) rfl)))
theorem ca_10 : ∀ a, a < 11 → wCode a ∈ tables_1 := lt_s ca_9 cw_10
theorem cw_11 : wCode 11 ∈ tables_1 := List.mem_append_right _ (List.mem_append_right _ (List.mem_append_left _ (List.mem_of_getElem? (i := 170) rfl)))
theorem ca_11 : ∀ a, a < 12 → wCode a ∈ tables_1 := lt_s ca_10 cw_11
theorem cw_12 : wCode 12 ∈ tables_1 := List.mem_append_right _ (List.mem_append_right _ (List.mem_append_left _ (List.mem_of_getElem? (i := 232) rfl)))
theorem ca_12 : ∀ a, a < 13 → wCode a ∈ tables_1 := lt_s ca_11 cw_12
theorem cw_13 : wCode 13 ∈ tables_1 := List.mem_append_right _ (List.mem_append_right _ (List.mem_append_left _ (List.mem_of_getElem? (i := 98) rfl)))
theorem ca_13 : ∀ a, a < 14 → wCode a ∈ tables_1 := lt_s ca_12 cw_13
theorem cw_14 : wCode 14 ∈ tables_1 := List.mem_append_right _ (List.mem_append_right _ (List.mem_append_right _ (List.mem_append_left _ (List.mem_of_getElem? (i := 35) rfl))))
theorem ca_14 : ∀ a, a < 15 → wCode a ∈ tables_1 := lt_s ca_13 cw_14
theorem cw_15 : wCode 15 ∈ tables_1 := List.mem_append_right _ (List.mem_append_right _ (List.mem_append_left _ (List.mem_of_getElem? (i := 178) rfl)))
theorem ca_15 : ∀ a, a < 16 → wCode a ∈ tables_1 := lt_s ca_14 cw_15
theorem cw_16 : wCode 16 ∈ tables_1 := List.mem_append_right _ (List.mem_append_right _ (List.mem_append_left _ (List.mem_of_getElem? (i := 216) rfl)))
theorem ca_16 : ∀ a, a < 17 → wCode a ∈ tables_1 := lt_s ca_15 cw_16
theorem cw_17 : wCode 17 ∈ tables_1 := List.mem_append_right _ (List.mem_append_right _ (List.mem_append_left _ (List.mem_of_getElem? (i := 207) rfl)))
theorem ca_17 : ∀ a, a < 18 → wCode a ∈ tables_1 := lt_s ca_16 cw_17
theorem cw_18 : wCode 18 ∈ tables_1 := List.mem_append_right _ (List.mem_append_right _ (List.mem_append_left _ (List.mem_of_getElem? (i := 189) rfl)))
theorem ca_18 : ∀ a, a < 19 → wCode a ∈ tables_1 := lt_s ca_17 cw_18
theorem cw_19 : wCode 19 ∈ tables_1 := List.mem_append_right _ (List.mem_append_right _ (List.mem_append_left _ (List.mem_of_getElem? (i := 193) rfl)))
theorem ca_19 : ∀ a, a < 20 → wCode a ∈ tables_1 := lt_s ca_18 cw_19
theorem cw_20 : wCode 20 ∈ tables_1 := List.mem_append_left _ (List.mem_of_getElem? (i := 45) rfl)
theorem ca_20 : ∀ a, a < 21 → wCode a ∈ tables_1 := lt_s ca_19 cw_20
theorem cw_21 : wCode 21 ∈ tables_1 := List.mem_append_right _ (List.mem_append_left _ (List.mem_of_getElem? (i := 17) rfl))
theorem ca_21 : ∀ a, a < 22 → wCode a ∈ tables_1 := lt_s ca_20 cw_21
theorem cw_22 : wCode 22 ∈ tables_1 := List.mem_append_right _ (List.mem_append_left _ (List.mem_of_getElem? (i := 26) rfl))
theorem ca_22 : ∀ a, a < 23 → wCode a ∈ tables_1 := lt_s ca_21 cw_22
theorem cw_23 : wCode 23 ∈ tables_1 := List.mem_append_right _ (List.mem_append_right _ (List.mem_append_left _ (List.mem_of_getElem? (i := 20) rfl)))
theorem ca_23 : ∀ a, a < 24 → wCode a ∈ tables_1 := lt_s ca_22 cw_23
theorem cw_24 : wCode 24 ∈ tables_1 := List.mem_append_right _ (List.mem_append_left _ (List.mem_of_getElem? (i := 31) rfl))
theorem ca_24 : ∀ a, a < 25 → wCode a ∈ tables_1 := lt_s ca_23 cw_24
theorem cw_25 : wCode 25 ∈ tables_1 := List.mem_append_right _ (List.mem_append_left _ (List.mem_of_getElem? (i := 35) rfl))
theorem ca_25 : ∀ a, a < 26 → wCode a ∈ tables_1 := lt_s ca_24 cw_25
theorem cw_26 : wCode 26 ∈ tables_1 := List.mem_append_right _ (List.mem_append_left _ (List.mem_of_getElem? (i := 22) rfl))
theorem ca_26 : ∀ a, a < 27 → wCode a ∈ tables_1 := lt_s ca_25 cw_26
theorem cw_27 : wCode 27 ∈ tables_1 := List.mem_append_right _ (List.mem_append_left _ (List.mem_of_getElem? (i := 95) rfl))
theorem ca_27 : ∀ a, a < 28 → wCode a ∈ tables_1 := lt_s ca_26 cw_27
theorem cw_28 : wCode 28 ∈ tables_1 := List.mem_append_right _ (List.mem_append_right _ (List.mem_append_left _ (List.mem_of_getElem? (i := 186) rfl)))
theorem ca_28 : ∀ a, a < 29 → wCode a ∈ tables_1 := lt_s ca_27 cw_28
theorem cw_29 : wCode 29 ∈ tables_1 := List.mem_append_right _ (List.mem_append_right _ (List.mem_append_left _ (List.mem_of_getElem? (i := 203) rfl)))
theorem ca_29 : ∀ a, a < 30 → wCode a ∈ tables_1 := lt_s ca_28 cw_29
theorem cw_30 : wCode 30 ∈ tables_1 := List.mem_append_right _ (List.mem_append_left _ (List.mem_of_getElem? (i := 59) rfl))
theorem ca_30 : ∀ a, a < 31 → wCode a ∈ tables_1 := lt_s ca_29 cw_30
theorem cw_31 : wCode 31 ∈ tables_1 := List.mem_append_right _ (List.mem_append_left _ (List.mem_of_getElem? (i := 63) rfl))
theorem ca_31 : ∀ a, a < 32 → wCode a ∈ tables_1 := lt_s ca_30 cw_31
theorem cw_32 : wCode 32 ∈ tables_1 := List.mem_append_right _ (List.mem_append_left _ (List.mem_of_getElem? (i := 71) rfl))
theorem ca_32 : ∀ a, a < 33 → wCode a ∈ tables_1 := lt_s ca_31 cw_32
theorem cw_33 : wCode 33 ∈ tables_1 := List.mem_append_right _ (List.mem_append_right _ (List.mem_append_left _ (List.mem_of_getElem? (i := 32) rfl)))
theorem ca_33 : ∀ a, a < 34 → wCode a ∈ tables_1 := lt_s ca_32 cw_33
theorem cw_34 : wCode 34 ∈ tables_1 := List.mem_append_right _ (List.mem_append_left _ (List.mem_of_getElem? (i := 91) rfl))
theorem ca_34 : ∀ a, a < 35 → wCode a ∈ tables_1 := lt_s ca_33 cw_34
theorem cw_35 : wCode 35 ∈ tables_1 := List.mem_append_right _ (List.mem_append_left _ (List.mem_of_getElem? (i := 226) rfl))
theorem ca_35 : ∀ a, a < 36 → wCode a ∈ tables_1 := lt_s ca_34 cw_35
theorem cw_36 : wCode 36 ∈ tables_1 := List.mem_append_right _ (List.mem_append_left _ (List.mem_of_getElem? (i := 230) rfl))
theorem ca_36 : ∀ a, a < 37 → wCode a ∈ tables_1 := lt_s ca_35 cw_36
theorem cw_37 : wCode 37 ∈ tables_1 := List.mem_append_right _ (List.mem_append_left _ (List.mem_of_getElem? (i := 87) rfl))
theorem ca_37 : ∀ a, a < 38 → wCode a ∈ tables_1 := lt_s ca_36 cw_37
theorem cw_38 : wCode 38 ∈ tables_1 := List.mem_append_left _ (List.mem_of_getElem? (i := 28) rfl)
theorem ca_38 : ∀ a, a < 39 → wCode a ∈ tables_1 := lt_s ca_37 cw_38
theorem cw_39 : wCode 39 ∈ tables_1 := List.mem_append_left _ (List.mem_of_getElem? (i := 211) rfl)
theorem ca_39 : ∀ a, a < 40 → wCode a ∈ tables_1 := lt_s ca_38 cw_39
theorem cw_40 : wCode 40 ∈ tables_1 := List.mem_append_left _ (List.mem_of_getElem? (i := 215) rfl)
theorem ca_40 : ∀ a, a < 41 → wCode a ∈ tables_1 := lt_s ca_39 cw_40
theorem cw_41 : wCode 41 ∈ tables_1 := List.mem_append_left _ (List.mem_of_getElem? (i := 227) rfl)
theorem ca_41 : ∀ a, a < 42 → wCode a ∈ tables_1 := lt_s ca_40 cw_41
theorem cw_42 : wCode 42 ∈ tables_1 := List.mem_append_left _ (List.mem_of_getElem? (i := 198) rfl)
theorem ca_42 : ∀ a, a < 43 → wCode a ∈ tables_1 := lt_s ca_41 cw_42
theorem cw_43 : wCode 43 ∈ tables_1 := List.mem_append_left _ (List.mem_of_getElem? (i := 201) rfl)
theorem ca_43 : ∀ a, a < 44 → wCode a ∈ tables_1 := lt_s ca_42 cw_43
theorem cw_44 : wCode 44 ∈ tables_1 := List.mem_append_right _ (List.mem_append_left _ (List.mem_of_getElem? (i := 8) rfl))
theorem ca_44 : ∀ a, a < 45 → wCode a ∈ tables_1 := lt_s ca_43 cw_44
theorem cw_45 : wCode 45 ∈ tables_1 := List.mem_append_left _ (List.mem_of_getElem? (i := 223) rfl)
theorem ca_45 : ∀ a, a < 46 → wCode a ∈ tables_1 := lt_s ca_44 cw_45
theorem cw_46 : wCode 46 ∈ tables_1 := List.mem_append_left _ (List.mem_of_getElem? (i := 231) rfl)
theorem ca_46 : ∀ a, a < 47 → wCode a ∈ tables_1 := lt_s ca_45 cw_46
theorem cw_47 : wCode 47 ∈ tables_1 := List.mem_append_left _ (List.mem_of_getElem? (i := 237) rfl)
theorem ca_47 : ∀ a, a < 48 → wCode a ∈ tables_1 := lt_s ca_46 cw_47
theorem cw_48 : wCode 48 ∈ tables_1 := List.mem_append_left _ (List.mem_of_getElem? (i := 234) rfl)
theorem ca_48 : ∀ a, a < 49 → wCode a ∈ tables_1 := lt_s ca_47 cw_48
theorem cw_49 : wCode 49 ∈ tables_1 := List.mem_append_right _ (List.mem_append_left _ (List.mem_of_getElem? (i := 0) rfl))
theorem ca_49 : ∀ a, a < 50 → wCode a ∈ tables_1 := lt_s ca_48 cw_49
theorem cw_50 : wCode 50 ∈ tables_1 := List.mem_append_right _ (List.mem_append_left _ (List.mem_of_getElem? (i := 13) rfl))
theorem ca_50 : ∀ a, a < 51 → wCode a ∈ tables_1 := lt_s ca_49 cw_50
theorem cw_51 : wCode 51 ∈ tables_1 := List.mem_append_right _ (List.mem_append_right _ (List.mem_append_left _ (List.mem_of_getElem? (i := 91) rfl)))
theorem ca_51 : ∀ a, a < 52 → wCode a ∈ tables_1 := lt_s ca_50 cw_51
theorem cw_52 : wCode 52 ∈ tables_1 := List.mem_append_right _ (List.mem_append_right _ (List.mem_append_right _ (List.mem_append_left _ (List.mem_of_getElem? (i := 36) rfl))))
theorem ca_52 : ∀ a, a < 53 → wCode a ∈ tables_1 := lt_s ca_51 cw_52
theorem cw_53 : wCode 53 ∈ tables_1 := List.mem_append_right _ (List.mem_append_right _ (List.mem_append_left _ (List.mem_of_getElem? (i := 219) rfl)))
theorem ca_53 : ∀ a, a < 54 → wCode a ∈ tables_1 := lt_s ca_52 cw_53
theorem cw_54 : wCode 54 ∈ tables_1 := List.mem_append_left _ (List.mem_of_getElem? (i := 101) rfl)
theorem ca_54 : ∀ a, a < 55 → wCode a ∈ tables_1 := lt_s ca_53 cw_54
theorem cw_55 : wCode 55 ∈ tables_1 := List.mem_append_right _ (List.mem_append_left _ (List.mem_of_getElem? (i := 43) rfl))
theorem ca_55 : ∀ a, a < 56 → wCode a ∈ tables_1 := lt_s ca_54 cw_55
theorem cw_56 : wCode 56 ∈ tables_1 := List.mem_append_right _ (List.mem_append_left _ (List.mem_of_getElem? (i := 46) rfl))
theorem ca_56 : ∀ a, a < 57 → wCode a ∈ tables_1 := lt_s ca_55 cw_56
theorem cw_57 : wCode 57 ∈ tables_1 := List.mem_append_right _ (List.mem_append_left _ (List.mem_of_getElem? (i := 167) rfl))
theorem ca_57 : ∀ a, a < 58 → wCode a ∈ tables_1 := lt_s ca_56 cw_57
theorem cw_58 : wCode 58 ∈ tables_1 := List.mem_append_right _ (List.mem_append_left _ (List.mem_of_getElem? (i := 152) rfl))
theorem ca_58 : ∀ a, a < 59 → wCode a ∈ tables_1 := lt_s ca_57 cw_58
theorem cw_59 : wCode 59 ∈ tables_1 := List.mem_append_right _ (List.mem_append_left _ (List.mem_of_getElem? (i := 191) rfl))
theorem ca_59 : ∀ a, a < 60 → wCode a ∈ tables_1 := lt_s ca_58 cw_59
theorem cw_60 : wCode 60 ∈ tables_1 := List.mem_append_right _ (List.mem_append_right _ (List.mem_append_left _ (List.mem_of_getElem? (i := 41) rfl)))
theorem ca_60 : ∀ a, a < 61 → wCode a ∈ tables_1 := lt_s ca_59 cw_60
theorem cw_61 : wCode 61 ∈ tables_1 := List.mem_append_right _ (List.mem_append_right _ (List.mem_append_left _ (List.mem_of_getElem? (i := 45) rfl)))
theorem ca_61 : ∀ a, a < 62 → wCode a ∈ tables_1 := lt_s ca_60 cw_61
theorem cw_62 : wCode 62 ∈ tables_1 := List.mem_append_right _ (List.mem_append_left _ (List.mem_of_getElem? (i := 179) rfl))
theorem ca_62 : ∀ a, a < 63 → wCode a ∈ tables_1 := lt_s ca_61 cw_62
theorem cw_63 : wCode 63 ∈ tables_1 := List.mem_append_right _ (List.mem_append_right _ (List.mem_append_left _ (List.mem_of_getElem? (i := 64) rfl)))
theorem ca_63 : ∀ a, a < 64 → wCode a ∈ tables_1 := lt_s ca_62 cw_63
theorem cw_64 : wCode 64 ∈ tables_1 := List.mem_append_right _ (List.mem_append_right _ (List.mem_append_left _ (List.mem_of_getElem? (i := 55) rfl)))
theorem ca_64 : ∀ a, a < 65 → wCode a ∈ tables_1 := lt_s ca_63 cw_64
theorem cw_65 : wCode 65 ∈ tables_1 := List.mem_append_left _ (List.mem_of_getElem? (i := 130) rfl)
theorem ca_65 : ∀ a, a < 66 → wCode a ∈ tables_1 := lt_s ca_64 cw_65
theorem cw_66 : wCode 66 ∈ tables_1 := List.mem_append_right _ (List.mem_append_left _ (List.mem_of_getElem? (i := 221) rfl))
theorem ca_66 : ∀ a, a < 67 → wCode a ∈ tables_1 := lt_s ca_65 cw_66
theorem cw_67 : wCode 67 ∈ tables_1 := List.mem_append_right _ (List.mem_append_left _ (List.mem_of_getElem? (i := 238) rfl))
theorem ca_67 : ∀ a, a < 68 → wCode a ∈ tables_1 := lt_s ca_66 cw_67
theorem cw_68 : wCode 68 ∈ tables_1 := List.mem_append_right _ (List.mem_append_right _ (List.mem_append_left _ (List.mem_of_getElem? (i := 28) rfl)))
theorem ca_68 : ∀ a, a < 69 → wCode a ∈ tables_1 := lt_s ca_67 cw_68
theorem cw_69 : wCode 69 ∈ tables_1 := List.mem_append_right _ (List.mem_append_right _ (List.mem_append_left _ (List.mem_of_getElem? (i := 9) rfl)))
theorem ca_69 : ∀ a, a < 70 → wCode a ∈ tables_1 := lt_s ca_68 cw_69
theorem cw_70 : wCode 70 ∈ tables_1 := List.mem_append_right _ (List.mem_append_right _ (List.mem_append_left _ (List.mem_of_getElem? (i := 14) rfl)))
theorem ca_70 : ∀ a, a < 71 → wCode a ∈ tables_1 := lt_s ca_69 cw_70
theorem cw_71 : wCode 71 ∈ tables_1 := List.mem_append_left _ (List.mem_of_getElem? (i := 76) rfl)
theorem ca_71 : ∀ a, a < 72 → wCode a ∈ tables_1 := lt_s ca_70 cw_71
theorem cw_72 : wCode 72 ∈ tables_1 := List.mem_append_right _ (List.mem_append_left _ (List.mem_of_getElem? (i := 39) rfl))
theorem ca_72 : ∀ a, a < 73 → wCode a ∈ tables_1 := lt_s ca_71 cw_72
theorem cw_73 : wCode 73 ∈ tables_1 := List.mem_append_right _ (List.mem_append_left _ (List.mem_of_getElem? (i := 204) rfl))
theorem ca_73 : ∀ a, a < 74 → wCode a ∈ tables_1 := lt_s ca_72 cw_73
theorem cw_74 : wCode 74 ∈ tables_1 := List.mem_append_right _ (List.mem_append_left _ (List.mem_of_getElem? (i := 126) rfl))
theorem ca_74 : ∀ a, a < 75 → wCode a ∈ tables_1 := lt_s ca_73 cw_74
theorem cw_75 : wCode 75 ∈ tables_1 := List.mem_append_right _ (List.mem_append_left _ (List.mem_of_getElem? (i := 135) rfl))
theorem ca_75 : ∀ a, a < 76 → wCode a ∈ tables_1 := lt_s ca_74 cw_75
theorem cw_76 : wCode 76 ∈ tables_1 := List.mem_append_right _ (List.mem_append_left _ (List.mem_of_getElem? (i := 208) rfl))
theorem ca_76 : ∀ a, a < 77 → wCode a ∈ tables_1 := lt_s ca_75 cw_76
theorem cw_77 : wCode 77 ∈ tables_1 := List.mem_append_right _ (List.mem_append_left _ (List.mem_of_getElem? (i := 83) rfl))
theorem ca_77 : ∀ a, a < 78 → wCode a ∈ tables_1 := lt_s ca_76 cw_77
theorem cw_78 : wCode 78 ∈ tables_1 := List.mem_append_right _ (List.mem_append_left _ (List.mem_of_getElem? (i := 67) rfl))
theorem ca_78 : ∀ a, a < 79 → wCode a ∈ tables_1 := lt_s ca_77 cw_78
theorem cw_79 : wCode 79 ∈ tables_1 := List.mem_append_right _ (List.mem_append_right _ (List.mem_append_left _ (List.mem_of_getElem? (i := 182) rfl)))
theorem ca_79 : ∀ a, a < 80 → wCode a ∈ tables_1 := lt_s ca_78 cw_79
theorem cw_80 : wCode 80 ∈ tables_1 := List.mem_append_right _ (List.mem_append_left _ (List.mem_of_getElem? (i := 106) rfl))
theorem ca_80 : ∀ a, a < 81 → wCode a ∈ tables_1 := lt_s ca_79 cw_80
theorem cw_81 : wCode 81 ∈ tables_1 := List.mem_append_right _ (List.mem_append_left _ (List.mem_of_getElem? (i := 213) rfl))
theorem ca_81 : ∀ a, a < 82 → wCode a ∈ tables_1 := lt_s ca_80 cw_81
theorem cw_82 : wCode 82 ∈ tables_1 := List.mem_append_right _ (List.mem_append_left _ (List.mem_of_getElem? (i := 110) rfl))
theorem ca_82 : ∀ a, a < 83 → wCode a ∈ tables_1 := lt_s ca_81 cw_82
theorem cw_83 : wCode 83 ∈ tables_1 := List.mem_append_right _ (List.mem_append_left _ (List.mem_of_getElem? (i := 114) rfl))
theorem ca_83 : ∀ a, a < 84 → wCode a ∈ tables_1 := lt_s ca_82 cw_83
theorem cw_84 : wCode 84 ∈ tables_1 := List.mem_append_right _ (List.mem_append_left _ (List.mem_of_getElem? (i := 144) rfl))
theorem ca_84 : ∀ a, a < 85 → wCode a ∈ tables_1 := lt_s ca_83 cw_84
theorem cw_85 : wCode 85 ∈ tables_1 := List.mem_append_right _ (List.mem_append_left _ (List.mem_of_getElem? (i := 148) rfl))
theorem ca_85 : ∀ a, a < 86 → wCode a ∈ tables_1 := lt_s ca_84 cw_85
theorem cw_86 : wCode 86 ∈ tables_1 := List.mem_append_right _ (List.mem_append_right _ (List.mem_append_left _ (List.mem_of_getElem? (i := 68) rfl)))
theorem ca_86 : ∀ a, a < 87 → wCode a ∈ tables_1 := lt_s ca_85 cw_86
theorem cw_87 : wCode 87 ∈ tables_1 := List.mem_append_right _ (List.mem_append_right _ (List.mem_append_left _ (List.mem_of_getElem? (i := 159) rfl)))
theorem ca_87 : ∀ a, a < 88 → wCode a ∈ tables_1 := lt_s ca_86 cw_87
theorem cw_88 : wCode 88 ∈ tables_1 := List.mem_append_left _ (List.mem_of_getElem? (i := 20) rfl)
theorem ca_88 : ∀ a, a < 89 → wCode a ∈ tables_1 := lt_s ca_87 cw_88
theorem cw_89 : wCode 89 ∈ tables_1 := List.mem_append_left _ (List.mem_of_getElem? (i := 194) rfl)
theorem ca_89 : ∀ a, a < 90 → wCode a ∈ tables_1 := lt_s ca_88 cw_89
theorem cw_90 : wCode 90 ∈ tables_1 := List.mem_append_left _ (List.mem_of_getElem? (i := 207) rfl)
theorem ca_90 : ∀ a, a < 91 → wCode a ∈ tables_1 := lt_s ca_89 cw_90
theorem cw_91 : wCode 91 ∈ tables_1 := List.mem_append_left _ (List.mem_of_getElem? (i := 219) rfl)
theorem ca_91 : ∀ a, a < 92 → wCode a ∈ tables_1 := lt_s ca_90 cw_91
theorem cw_92 : wCode 92 ∈ tables_1 := List.mem_append_right _ (List.mem_append_left _ (List.mem_of_getElem? (i := 4) rfl))
theorem ca_92 : ∀ a, a < 93 → wCode a ∈ tables_1 := lt_s ca_91 cw_92
theorem cw_93 : wCode 93 ∈ tables_1 := List.mem_append_right _ (List.mem_append_left _ (List.mem_of_getElem? (i := 51) rfl))
theorem ca_93 : ∀ a, a < 94 → wCode a ∈ tables_1 := lt_s ca_92 cw_93
theorem cw_94 : wCode 94 ∈ tables_1 := List.mem_append_right _ (List.mem_append_left _ (List.mem_of_getElem? (i := 75) rfl))
theorem ca_94 : ∀ a, a < 95 → wCode a ∈ tables_1 := lt_s ca_93 cw_94
theorem cw_95 : wCode 95 ∈ tables_1 := List.mem_append_right _ (List.mem_append_left _ (List.mem_of_getElem? (i := 99) rfl))
theorem ca_95 : ∀ a, a < 96 → wCode a ∈ tables_1 := lt_s ca_94 cw_95
theorem cw_96 : wCode 96 ∈ tables_1 := List.mem_append_right _ (List.mem_append_left _ (List.mem_of_getElem? (i := 118) rfl))
theorem ca_96 : ∀ a, a < 97 → wCode a ∈ tables_1 := lt_s ca_95 cw_96
theorem cw_97 : wCode 97 ∈ tables_1 := List.mem_append_right _ (List.mem_append_left _ (List.mem_of_getElem? (i := 131) rfl))
theorem ca_97 : ∀ a, a < 98 → wCode a ∈ tables_1 := lt_s ca_96 cw_97
theorem cw_98 : wCode 98 ∈ tables_1 := List.mem_append_right _ (List.mem_append_left _ (List.mem_of_getElem? (i := 140) rfl))
theorem ca_98 : ∀ a, a < 99 → wCode a ∈ tables_1 := lt_s ca_97 cw_98
theorem cw_99 : wCode 99 ∈ tables_1 := List.mem_append_right _ (List.mem_append_left _ (List.mem_of_getElem? (i := 187) rfl))
theorem ca_99 : ∀ a, a < 100 → wCode a ∈ tables_1 := lt_s ca_98 cw_99
theorem cw_100 : wCode 100 ∈ tables_1 := List.mem_append_right _ (List.mem_append_left _ (List.mem_of_getElem? (i := 196) rfl))
theorem ca_100 : ∀ a, a < 101 → wCode a ∈ tables_1 := lt_s ca_99 cw_100
theorem cw_101 : wCode 101 ∈ tables_1 := List.mem_append_right _ (List.mem_append_left _ (List.mem_of_getElem? (i := 200) rfl))
theorem ca_101 : ∀ a, a < 102 → wCode a ∈ tables_1 := lt_s ca_100 cw_101
theorem cw_102 : wCode 102 ∈ tables_1 := List.mem_append_right _ (List.mem_append_left _ (List.mem_of_getElem? (i := 217) rfl))
theorem ca_102 : ∀ a, a < 103 → wCode a ∈ tables_1 := lt_s ca_101 cw_102
theorem cw_103 : wCode 103 ∈ tables_1 := List.mem_append_right _ (List.mem_append_left _ (List.mem_of_getElem? (i := 234) rfl))
theorem ca_103 : ∀ a, a < 104 → wCode a ∈ tables_1 := lt_s ca_102 cw_103
theorem cw_104 : wCode 104 ∈ tables_1 := List.mem_append_right _ (List.mem_append_right _ (List.mem_append_left _ (List.mem_of_getElem? (i := 5) rfl)))
theorem ca_104 : ∀ a, a < 105 → wCode a ∈ tables_1 := lt_s ca_103 cw_104
theorem cw_105 : wCode 105 ∈ tables_1 := List.mem_append_right _ (List.mem_append_right _ (List.mem_append_left _ (List.mem_of_getElem? (i := 24) rfl)))
theorem ca_105 : ∀ a, a < 106 → wCode a ∈ tables_1 := lt_s ca_104 cw_105
theorem cw_106 : wCode 106 ∈ tables_1 := List.mem_append_right _ (List.mem_append_right _ (List.mem_append_left _ (List.mem_of_getElem? (i := 37) rfl)))
theorem ca_106 : ∀ a, a < 107 → wCode a ∈ tables_1 := lt_s ca_105 cw_106
theorem cw_107 : wCode 107 ∈ tables_1 := List.mem_append_right _ (List.mem_append_right _ (List.mem_append_left _ (List.mem_of_getElem? (i := 77) rfl)))
theorem ca_107 : ∀ a, a < 108 → wCode a ∈ tables_1 := lt_s ca_106 cw_107
theorem cw_108 : wCode 108 ∈ tables_1 := List.mem_append_right _ (List.mem_append_right _ (List.mem_append_left _ (List.mem_of_getElem? (i := 129) rfl)))
theorem ca_108 : ∀ a, a < 109 → wCode a ∈ tables_1 := lt_s ca_107 cw_108
theorem cw_109 : wCode 109 ∈ tables_1 := List.mem_append_right _ (List.mem_append_right _ (List.mem_append_left _ (List.mem_of_getElem? (i := 140) rfl)))
theorem ca_109 : ∀ a, a < 110 → wCode a ∈ tables_1 := lt_s ca_108 cw_109
theorem cw_110 : wCode 110 ∈ tables_1 := List.mem_append_right _ (List.mem_append_right _ (List.mem_append_left _ (List.mem_of_getElem? (i := 224) rfl)))
theorem ca_110 : ∀ a, a < 111 → wCode a ∈ tables_1 := lt_s ca_109 cw_110
theorem cw_111 : wCode 111 ∈ tables_1 := List.mem_append_right _ (List.mem_append_right _ (List.mem_append_left _ (List.mem_of_getElem? (i := 236) rfl)))
theorem ca_111 : ∀ a, a < 112 → wCode a ∈ tables_1 := lt_s ca_110 cw_111
theorem cw_112 : wCode 112 ∈ tables_1 := List.mem_append_right _ (List.mem_append_right _ (List.mem_append_right _ (List.mem_append_left _ (List.mem_of_getElem? (i := 0) rfl))))
theorem ca_112 : ∀ a, a < 113 → wCode a ∈ tables_1 := lt_s ca_111 cw_112
theorem cw_113 : wCode 113 ∈ tables_1 := List.mem_append_right _ (List.mem_append_right _ (List.mem_append_right _ (List.mem_append_left _ (List.mem_of_getElem? (i := 4) rfl))))
theorem ca_113 : ∀ a, a < 114 → wCode a ∈ tables_1 := lt_s ca_112 cw_113
theorem cw_114 : wCode 114 ∈ tables_1 := List.mem_append_right _ (List.mem_append_right _ (List.mem_append_right _ (List.mem_append_left _ (List.mem_of_getElem? (i := 8) rfl))))
theorem ca_114 : ∀ a, a < 115 → wCode a ∈ tables_1 := lt_s ca_113 cw_114
theorem cw_115 : wCode 115 ∈ tables_1 := List.mem_append_right _ (List.mem_append_left _ (List.mem_of_getElem? (i := 79) rfl))
theorem ca_115 : ∀ a, a < 116 → wCode a ∈ tables_1 := lt_s ca_114 cw_115
theorem cw_116 : wCode 116 ∈ tables_1 := List.mem_append_right _ (List.mem_append_left _ (List.mem_of_getElem? (i := 55) rfl))
theorem ca_116 : ∀ a, a < 117 → wCode a ∈ tables_1 := lt_s ca_115 cw_116
theorem cw_117 : wCode 117 ∈ tables_1 := List.mem_append_right _ (List.mem_append_left _ (List.mem_of_getElem? (i := 102) rfl))
theorem ca_117 : ∀ a, a < 118 → wCode a ∈ tables_1 := lt_s ca_116 cw_117
theorem cw_118 : wCode 118 ∈ tables_1 := List.mem_append_right _ (List.mem_append_right _ (List.mem_append_left _ (List.mem_of_getElem? (i := 80) rfl)))
theorem ca_118 : ∀ a, a < 119 → wCode a ∈ tables_1 := lt_s ca_117 cw_118
theorem cw_119 : wCode 119 ∈ tables_1 := List.mem_append_right _ (List.mem_append_left _ (List.mem_of_getElem? (i := 122) rfl))
theorem ca_119 : ∀ a, a < 120 → wCode a ∈ tables_1 := lt_s ca_118 cw_119
theorem cw_120 : wCode 120 ∈ tables_1 := List.mem_append_right _ (List.mem_append_right _ (List.mem_append_left _ (List.mem_of_getElem? (i := 133) rfl)))
theorem ca_120 : ∀ a, a < 121 → wCode a ∈ tables_1 := lt_s ca_119 cw_120
theorem cw_121 : wCode 121 ∈ tables_1 := List.mem_append_right _ (List.mem_append_right _ (List.mem_append_left _ (List.mem_of_getElem? (i := 83) rfl)))
theorem ca_121 : ∀ a, a < 122 → wCode a ∈ tables_1 := lt_s ca_120 cw_121
theorem cw_122 : wCode 122 ∈ tables_1 := List.mem_append_right _ (List.mem_append_right _ (List.mem_append_left _ (List.mem_of_getElem? (i := 136) rfl)))
theorem ca_122 : ∀ a, a < 123 → wCode a ∈ tables_1 := lt_s ca_121 cw_122
theorem cw_123 : wCode 123 ∈ tables_1 := List.mem_append_right _ (List.mem_append_right _ (List.mem_append_left _ (List.mem_of_getElem? (i := 228) rfl)))
theorem ca_123 : ∀ a, a < 124 → wCode a ∈ tables_1 := lt_s ca_122 cw_123
theorem cw_124 : wCode 124 ∈ tables_1 := List.mem_append_right _ (List.mem_append_right _ (List.mem_append_left _ (List.mem_of_getElem? (i := 48) rfl)))
theorem ca_124 : ∀ a, a < 125 → wCode a ∈ tables_1 := lt_s ca_123 cw_124
theorem cw_125 : wCode 125 ∈ tables_1 := List.mem_append_right _ (List.mem_append_right _ (List.mem_append_left _ (List.mem_of_getElem? (i := 73) rfl)))
theorem ca_125 : ∀ a, a < 126 → wCode a ∈ tables_1 := lt_s ca_124 cw_125
theorem cw_126 : wCode 126 ∈ tables_1 := List.mem_append_left _ (List.mem_of_getElem? (i := 105) rfl)
theorem ca_126 : ∀ a, a < 127 → wCode a ∈ tables_1 := lt_s ca_125 cw_126
theorem cw_127 : wCode 127 ∈ tables_1 := List.mem_append_left _ (List.mem_of_getElem? (i := 108) rfl)
theorem ca_127 : ∀ a, a < 128 → wCode a ∈ tables_1 := lt_s ca_126 cw_127
theorem cw_128 : wCode 128 ∈ tables_1 := List.mem_append_right _ (List.mem_append_right _ (List.mem_append_right _ (List.mem_append_left _ (List.mem_of_getElem? (i := 43) rfl))))
theorem ca_128 : ∀ a, a < 129 → wCode a ∈ tables_1 := lt_s ca_127 cw_128
theorem cw_129 : wCode 129 ∈ tables_1 := List.mem_append_right _ (List.mem_append_right _ (List.mem_append_right _ (List.mem_append_left _ (List.mem_of_getElem? (i := 214) rfl))))
theorem ca_129 : ∀ a, a < 130 → wCode a ∈ tables_1 := lt_s ca_128 cw_129
theorem cw_130 : wCode 130 ∈ tables_1 := List.mem_append_right _ (List.mem_append_right _ (List.mem_append_right _ (List.mem_append_right _ ((List.mem_of_getElem? (i := 17) rfl)))))
theorem ca_130 : ∀ a, a < 131 → wCode a ∈ tables_1 := lt_s ca_129 cw_130
theorem cw_131 : wCode 131 ∈ tables_1 := List.mem_append_right _ (List.mem_append_right _ (List.mem_append_right _ (List.mem_append_left _ (List.mem_of_getElem? (i := 194) rfl))))
theorem ca_131 : ∀ a, a < 132 → wCode a ∈ tables_1 := lt_s ca_130 cw_131
theorem cw_132 : wCode 132 ∈ tables_1 := List.mem_append_right _ (List.mem_append_right _ (List.mem_append_right _ (List.mem_append_left _ (List.mem_of_getElem? (i := 199) rfl))))
theorem ca_132 : ∀ a, a < 133 → wCode a ∈ tables_1 := lt_s ca_131 cw_132
theorem cw_133 : wCode 133 ∈ tables_1 := List.mem_append_right _ (List.mem_append_right _ (List.mem_append_right _ (List.mem_append_left _ (List.mem_of_getElem? (i := 211) rfl))))
theorem ca_133 : ∀ a, a < 134 → wCode a ∈ tables_1 := lt_s ca_132 cw_133
theorem cw_134 : wCode 134 ∈ tables_1 := List.mem_append_right _ (List.mem_append_right _ (List.mem_append_right _ (List.mem_append_left _ (List.mem_of_getElem? (i := 218) rfl))))
theorem ca_134 : ∀ a, a < 135 → wCode a ∈ tables_1 := lt_s ca_133 cw_134
theorem cw_135 : wCode 135 ∈ tables_1 := List.mem_append_right _ (List.mem_append_right _ (List.mem_append_right _ (List.mem_append_left _ (List.mem_of_getElem? (i := 207) rfl))))
theorem ca_135 : ∀ a, a < 136 → wCode a ∈ tables_1 := lt_s ca_134 cw_135
theorem cw_136 : wCode 136 ∈ tables_1 := List.mem_append_right _ (List.mem_append_right _ (List.mem_append_right _ (List.mem_append_left _ (List.mem_of_getElem? (i := 203) rfl))))
theorem ca_136 : ∀ a, a < 137 → wCode a ∈ tables_1 := lt_s ca_135 cw_136
theorem cw_137 : wCode 137 ∈ tables_1 := List.mem_append_right _ (List.mem_append_right _ (List.mem_append_right _ (List.mem_append_left _ (List.mem_of_getElem? (i := 222) rfl))))
theorem ca_137 : ∀ a, a < 138 → wCode a ∈ tables_1 := lt_s ca_136 cw_137
theorem cw_138 : wCode 138 ∈ tables_1 := List.mem_append_right _ (List.mem_append_right _ (List.mem_append_right _ (List.mem_append_left _ (List.mem_of_getElem? (i := 230) rfl))))
theorem ca_138 : ∀ a, a < 139 → wCode a ∈ tables_1 := lt_s ca_137 cw_138
theorem cw_139 : wCode 139 ∈ tables_1 := List.mem_append_right _ (List.mem_append_right _ (List.mem_append_right _ (List.mem_append_left _ (List.mem_of_getElem? (i := 234) rfl))))
theorem ca_139 : ∀ a, a < 140 → wCode a ∈ tables_1 := lt_s ca_138 cw_139
theorem cw_140 : wCode 140 ∈ tables_1 := List.mem_append_right _ (List.mem_append_right _ (List.mem_append_right _ (List.mem_append_left _ (List.mem_of_getElem? (i := 226) rfl))))
theorem ca_140 : ∀ a, a < 141 → wCode a ∈ tables_1 := lt_s ca_139 cw_140
theorem cw_141 : wCode 141 ∈ tables_1 := List.mem_append_right _ (List.mem_append_right _ (List.mem_append_right _ (List.mem_append_right _ ((List.mem_of_getElem? (i := 14) rfl)))))
theorem ca_141 : ∀ a, a < 142 → wCode a ∈ tables_1 := lt_s ca_140 cw_141
theorem cw_142 : wCode 142 ∈ tables_1 := List.mem_append_right _ (List.mem_append_right _ (List.mem_append_right _ (List.mem_append_right _ ((List.mem_of_getElem? (i := 10) rfl)))))
theorem ca_142 : ∀ a, a < 143 → wCode a ∈ tables_1 := lt_s ca_141 cw_142
theorem cw_143 : wCode 143 ∈ tables_1 := List.mem_append_right _ (List.mem_append_right _ (List.mem_append_right _ (List.mem_append_right _ ((List.mem_of_getElem? (i := 6) rfl)))))
theorem ca_143 : ∀ a, a < 144 → wCode a ∈ tables_1 := lt_s ca_142 cw_143
theorem cw_144 : wCode 144 ∈ tables_1 := List.mem_append_right _ (List.mem_append_right _ (List.mem_append_right _ (List.mem_append_right _ ((List.mem_of_getElem? (i := 2) rfl)))))
theorem ca_144 : ∀ a, a < 145 → wCode a ∈ tables_1 := lt_s ca_143 cw_144
theorem cw_145 : wCode 145 ∈ tables_1 := List.mem_append_right _ (List.mem_append_right _ (List.mem_append_right _ (List.mem_append_left _ (List.mem_of_getElem? (i := 238) rfl))))
theorem ca_145 : ∀ a, a < 146 → wCode a ∈ tables_1 := lt_s ca_144 cw_145
theorem cw_146 : wCode 146 ∈ tables_1 := List.mem_append_right _ (List.mem_append_right _ (List.mem_append_right _ (List.mem_append_right _ ((List.mem_of_getElem? (i := 32) rfl)))))
theorem ca_146 : ∀ a, a < 147 → wCode a ∈ tables_1 := lt_s ca_145 cw_146
theorem cw_147 : wCode 147 ∈ tables_1 := List.mem_append_right _ (List.mem_append_right _ (List.mem_append_right _ (List.mem_append_right _ ((List.mem_of_getElem? (i := 36) rfl)))))
theorem ca_147 : ∀ a, a < 148 → wCode a ∈ tables_1 := lt_s ca_146 cw_147
theorem cw_148 : wCode 148 ∈ tables_1 := List.mem_append_right _ (List.mem_append_right _ (List.mem_append_right _ (List.mem_append_right _ ((List.mem_of_getElem? (i := 43) rfl)))))
theorem ca_148 : ∀ a, a < 149 → wCode a ∈ tables_1 := lt_s ca_147 cw_148
theorem cw_149 : wCode 149 ∈ tables_1 := List.mem_append_right _ (List.mem_append_right _ (List.mem_append_right _ (List.mem_append_right _ ((List.mem_of_getElem? (i := 40) rfl)))))
theorem ca_149 : ∀ a, a < 150 → wCode a ∈ tables_1 := lt_s ca_148 cw_149
theorem cw_150 : wCode 150 ∈ tables_1 := List.mem_append_right _ (List.mem_append_right _ (List.mem_append_right _ (List.mem_append_right _ ((List.mem_of_getElem? (i := 28) rfl)))))
theorem ca_150 : ∀ a, a < 151 → wCode a ∈ tables_1 := lt_s ca_149 cw_150
theorem cw_151 : wCode 151 ∈ tables_1 := List.mem_append_right _ (List.mem_append_right _ (List.mem_append_right _ (List.mem_append_right _ ((List.mem_of_getElem? (i := 24) rfl)))))
theorem ca_151 : ∀ a, a < 152 → wCode a ∈ tables_1 := lt_s ca_150 cw_151
theorem cw_152 : wCode 152 ∈ tables_1 := List.mem_append_right _ (List.mem_append_right _ (List.mem_append_right _ (List.mem_append_right _ ((List.mem_of_getElem? (i := 21) rfl)))))
theorem ca_152 : ∀ a, a < 153 → wCode a ∈ tables_1 := lt_s ca_151 cw_152
theorem cw_153 : wCode 153 ∈ tables_1 := List.mem_append_right _ (List.mem_append_right _ (List.mem_append_right _ (List.mem_append_right _ ((List.mem_of_getElem? (i := 55) rfl)))))
theorem ca_153 : ∀ a, a < 154 → wCode a ∈ tables_1 := lt_s ca_152 cw_153
theorem cw_154 : wCode 154 ∈ tables_1 := List.mem_append_right _ (List.mem_append_right _ (List.mem_append_right _ (List.mem_append_right _ ((List.mem_of_getElem? (i := 51) rfl)))))
theorem ca_154 : ∀ a, a < 155 → wCode a ∈ tables_1 := lt_s ca_153 cw_154
theorem cw_155 : wCode 155 ∈ tables_1 := List.mem_append_right _ (List.mem_append_right _ (List.mem_append_right _ (List.mem_append_right _ ((List.mem_of_getElem? (i := 47) rfl)))))
theorem ca_155 : ∀ a, a < 156 → wCode a ∈ tables_1 := lt_s ca_154 cw_155
theorem cw_156 : wCode 156 ∈ tables_1 := List.mem_append_right _ (List.mem_append_right _ (List.mem_append_right _ (List.mem_append_right _ ((List.mem_of_getElem? (i := 59) rfl)))))
theorem ca_156 : ∀ a, a < 157 → wCode a ∈ tables_1 := lt_s ca_155 cw_156
theorem cw_157 : wCode 157 ∈ tables_1 := List.mem_append_right _ (List.mem_append_right _ (List.mem_append_right _ (List.mem_append_right _ ((List.mem_of_getElem? (i := 63) rfl)))))
theorem ca_157 : ∀ a, a < 158 → wCode a ∈ tables_1 := lt_s ca_156 cw_157
theorem cw_158 : wCode 158 ∈ tables_1 := List.mem_append_right _ (List.mem_append_right _ (List.mem_append_right _ (List.mem_append_right _ ((List.mem_of_getElem? (i := 67) rfl)))))
theorem ca_158 : ∀ a, a < 159 → wCode a ∈ tables_1 := lt_s ca_157 cw_158
theorem cw_159 : wCode 159 ∈ tables_1 := List.mem_append_right _ (List.mem_append_right _ (List.mem_append_right _ (List.mem_append_right _ ((List.mem_of_getElem? (i := 71) rfl)))))
theorem ca_159 : ∀ a, a < 160 → wCode a ∈ tables_1 := lt_s ca_158 cw_159
theorem cw_160 : wCode 160 ∈ tables_1 := List.mem_append_right _ (List.mem_append_right _ (List.mem_append_right _ (List.mem_append_right _ ((List.mem_of_getElem? (i := 79) rfl)))))
theorem ca_160 : ∀ a, a < 161 → wCode a ∈ tables_1 := lt_s ca_159 cw_160
theorem cw_161 : wCode 161 ∈ tables_1 := List.mem_append_right _ (List.mem_append_right _ (List.mem_append_right _ (List.mem_append_right _ ((List.mem_of_getElem? (i := 83) rfl)))))
theorem ca_161 : ∀ a, a < 162 → wCode a ∈ tables_1 := lt_s ca_160 cw_161
theorem cw_162 : wCode 162 ∈ tables_1 := List.mem_append_right _ (List.mem_append_right _ (List.mem_append_right _ (List.mem_append_right _ ((List.mem_of_getElem? (i := 75) rfl)))))
theorem ca_162 : ∀ a, a < 163 → wCode a ∈ tables_1 := lt_s ca_161 cw_162
theorem cw_163 : wCode 163 ∈ tables_1 := List.mem_append_right _ (List.mem_append_right _ (List.mem_append_right _ (List.mem_append_right _ ((List.mem_of_getElem? (i := 91) rfl)))))
theorem ca_163 : ∀ a, a < 164 → wCode a ∈ tables_1 := lt_s ca_162 cw_163
theorem cw_164 : wCode 164 ∈ tables_1 := List.mem_append_right _ (List.mem_append_right _ (List.mem_append_right _ (List.mem_append_right _ ((List.mem_of_getElem? (i := 87) rfl)))))
theorem ca_164 : ∀ a, a < 165 → wCode a ∈ tables_1 := lt_s ca_163 cw_164
theorem cw_165 : wCode 165 ∈ tables_1 := List.mem_append_right _ (List.mem_append_right _ (List.mem_append_right _ (List.mem_append_right _ ((List.mem_of_getElem? (i := 102) rfl)))))
theorem ca_165 : ∀ a, a < 166 → wCode a ∈ tables_1 := lt_s ca_164 cw_165
theorem cw_166 : wCode 166 ∈ tables_1 := List.mem_append_right _ (List.mem_append_right _ (List.mem_append_right _ (List.mem_append_right _ ((List.mem_of_getElem? (i := 99) rfl)))))
theorem ca_166 : ∀ a, a < 167 → wCode a ∈ tables_1 := lt_s ca_165 cw_166
theorem cw_167 : wCode 167 ∈ tables_1 := List.mem_append_right _ (List.mem_append_right _ (List.mem_append_right _ (List.mem_append_right _ ((List.mem_of_getElem? (i := 95) rfl)))))
theorem ca_167 : ∀ a, a < 168 → wCode a ∈ tables_1 := lt_s ca_166 cw_167
theorem cw_168 : wCode 168 ∈ tables_1 := List.mem_append_right _ (List.mem_append_right _ (List.mem_append_right _ (List.mem_append_right _ ((List.mem_of_getElem? (i := 114) rfl)))))
theorem ca_168 : ∀ a, a < 169 → wCode a ∈ tables_1 := lt_s ca_167 cw_168
theorem cw_169 : wCode 169 ∈ tables_1 := List.mem_append_right _ (List.mem_append_right _ (List.mem_append_right _ (List.mem_append_right _ ((List.mem_of_getElem? (i := 110) rfl)))))
theorem ca_169 : ∀ a, a < 170 → wCode a ∈ tables_1 := lt_s ca_168 cw_169
theorem cw_170 : wCode 170 ∈ tables_1 := List.mem_append_right _ (List.mem_append_right _ (List.mem_append_right _ (List.mem_append_right _ ((List.mem_of_getElem? (i := 106) rfl)))))
theorem ca_170 : ∀ a, a < 171 → wCode a ∈ tables_1 := lt_s ca_169 cw_170
theorem cw_171 : wCode 171 ∈ tables_1 := List.mem_append_right _ (List.mem_append_right _ (List.mem_append_right _ (List.mem_append_right _ ((List.mem_of_getElem? (i := 122) rfl)))))
theorem ca_171 : ∀ a, a < 172 → wCode a ∈ tables_1 := lt_s ca_170 cw_171
theorem cw_172 : wCode 172 ∈ tables_1 := List.mem_append_right _ (List.mem_append_right _ (List.mem_append_right _ (List.mem_append_right _ ((List.mem_of_getElem? (i := 118) rfl)))))
theorem ca_172 : ∀ a, a < 173 → wCode a ∈ tables_1 := lt_s ca_171 cw_172
theorem cw_173 : wCode 173 ∈ tables_1 := List.mem_append_right _ (List.mem_append_right _ (List.mem_append_right _ (List.mem_append_right _ ((List.mem_of_getElem? (i := 138) rfl)))))
theorem ca_173 : ∀ a, a < 174 → wCode a ∈ tables_1 := lt_s ca_172 cw_173
theorem cw_174 : wCode 174 ∈ tables_1 := List.mem_append_right _ (List.mem_append_right _ (List.mem_append_right _ (List.mem_append_right _ ((List.mem_of_getElem? (i := 135) rfl)))))
theorem ca_174 : ∀ a, a < 175 → wCode a ∈ tables_1 := lt_s ca_173 cw_174
theorem cw_175 : wCode 175 ∈ tables_1 := List.mem_append_right _ (List.mem_append_right _ (List.mem_append_right _ (List.mem_append_right _ ((List.mem_of_getElem? (i := 142) rfl)))))
theorem ca_175 : ∀ a, a < 176 → wCode a ∈ tables_1 := lt_s ca_174 cw_175
theorem cw_176 : wCode 176 ∈ tables_1 := List.mem_append_right _ (List.mem_append_right _ (List.mem_append_right _ (List.mem_append_right _ ((List.mem_of_getElem? (i := 146) rfl)))))
theorem ca_176 : ∀ a, a < 177 → wCode a ∈ tables_1 := lt_s ca_175 cw_176
theorem cw_177 : wCode 177 ∈ tables_1 := List.mem_append_right _ (List.mem_append_right _ (List.mem_append_right _ (List.mem_append_right _ ((List.mem_of_getElem? (i := 131) rfl)))))
theorem ca_177 : ∀ a, a < 178 → wCode a ∈ tables_1 := lt_s ca_176 cw_177
theorem cw_178 : wCode 178 ∈ tables_1 := List.mem_append_right _ (List.mem_append_right _ (List.mem_append_right _ (List.mem_append_right _ ((List.mem_of_getElem? (i := 127) rfl)))))
theorem ca_178 : ∀ a, a < 179 → wCode a ∈ tables_1 := lt_s ca_177 cw_178
theorem cw_179 : wCode 179 ∈ tables_1 := List.mem_append_right _ (List.mem_append_right _ (List.mem_append_right _ (List.mem_append_right _ ((List.mem_of_getElem? (i := 150) rfl)))))
theorem ca_179 : ∀ a, a < 180 → wCode a ∈ tables_1 := lt_s ca_178 cw_179
theorem cw_180 : wCode 180 ∈ tables_1 := List.mem_append_right _ (List.mem_append_right _ (List.mem_append_right _ (List.mem_append_right _ ((List.mem_of_getElem? (i := 158) rfl)))))
theorem ca_180 : ∀ a, a < 181 → wCode a ∈ tables_1 := lt_s ca_179 cw_180
theorem cw_181 : wCode 181 ∈ tables_1 := List.mem_append_right _ (List.mem_append_right _ (List.mem_append_right _ (List.mem_append_right _ ((List.mem_of_getElem? (i := 154) rfl)))))
theorem ca_181 : ∀ a, a < 182 → wCode a ∈ tables_1 := lt_s ca_180 cw_181
theorem cw_182 : wCode 182 ∈ tables_1 := List.mem_append_right _ (List.mem_append_right _ (List.mem_append_right _ (List.mem_append_right _ ((List.mem_of_getElem? (i := 190) rfl)))))
theorem ca_182 : ∀ a, a < 183 → wCode a ∈ tables_1 := lt_s ca_181 cw_182
theorem cw_183 : wCode 183 ∈ tables_1 := List.mem_append_right _ (List.mem_append_right _ (List.mem_append_right _ (List.mem_append_right _ ((List.mem_of_getElem? (i := 170) rfl)))))
theorem ca_183 : ∀ a, a < 184 → wCode a ∈ tables_1 := lt_s ca_182 cw_183
theorem cw_184 : wCode 184 ∈ tables_1 := List.mem_append_right _ (List.mem_append_right _ (List.mem_append_right _ (List.mem_append_right _ ((List.mem_of_getElem? (i := 178) rfl)))))
theorem ca_184 : ∀ a, a < 185 → wCode a ∈ tables_1 := lt_s ca_183 cw_184
theorem cw_185 : wCode 185 ∈ tables_1 := List.mem_append_right _ (List.mem_append_right _ (List.mem_append_right _ (List.mem_append_right _ ((List.mem_of_getElem? (i := 182) rfl)))))
theorem ca_185 : ∀ a, a < 186 → wCode a ∈ tables_1 := lt_s ca_184 cw_185
theorem cw_186 : wCode 186 ∈ tables_1 := List.mem_append_right _ (List.mem_append_right _ (List.mem_append_right _ (List.mem_append_right _ ((List.mem_of_getElem? (i := 174) rfl)))))
theorem ca_186 : ∀ a, a < 187 → wCode a ∈ tables_1 := lt_s ca_185 cw_186
theorem cw_187 : wCode 187 ∈ tables_1 := List.mem_append_right _ (List.mem_append_right _ (List.mem_append_right _ (List.mem_append_right _ ((List.mem_of_getElem? (i := 186) rfl)))))
theorem ca_187 : ∀ a, a < 188 → wCode a ∈ tables_1 := lt_s ca_186 cw_187
theorem cw_188 : wCode 188 ∈ tables_1 := List.mem_append_right _ (List.mem_append_right _ (List.mem_append_right _ (List.mem_append_right _ ((List.mem_of_getElem? (i := 166) rfl)))))
theorem ca_188 : ∀ a, a < 189 → wCode a ∈ tables_1 := lt_s ca_187 cw_188
theorem cw_189 : wCode 189 ∈ tables_1 := List.mem_append_right _ (List.mem_append_right _ (List.mem_append_right _ (List.mem_append_right _ ((List.mem_of_getElem? (i := 162) rfl)))))
theorem ca_189 : ∀ a, a < 190 → wCode a ∈ tables_1 := lt_s ca_188 cw_189
theorem cw_190 : wCode 190 ∈ tables_1 := List.mem_append_right _ (List.mem_append_right _ (List.mem_append_right _ (List.mem_append_right _ ((List.mem_of_getElem? (i := 202) rfl)))))
theorem ca_190 : ∀ a, a < 191 → wCode a ∈ tables_1 := lt_s ca_189 cw_190
theorem cw_191 : wCode 191 ∈ tables_1 := List.mem_append_right _ (List.mem_append_right _ (List.mem_append_right _ (List.mem_append_right _ ((List.mem_of_getElem? (i := 198) rfl)))))
theorem ca_191 : ∀ a, a < 192 → wCode a ∈ tables_1 := lt_s ca_190 cw_191
theorem cw_192 : wCode 192 ∈ tables_1 := List.mem_append_right _ (List.mem_append_right _ (List.mem_append_right _ (List.mem_append_right _ ((List.mem_of_getElem? (i := 206) rfl)))))
theorem ca_192 : ∀ a, a < 193 → wCode a ∈ tables_1 := lt_s ca_191 cw_192
theorem cw_193 : wCode 193 ∈ tables_1 := List.mem_append_right _ (List.mem_append_right _ (List.mem_append_right _ (List.mem_append_right _ ((List.mem_of_getElem? (i := 210) rfl)))))
theorem ca_193 : ∀ a, a < 194 → wCode a ∈ tables_1 := lt_s ca_192 cw_193
theorem cw_194 : wCode 194 ∈ tables_1 := List.mem_append_right _ (List.mem_append_right _ (List.mem_append_right _ (List.mem_append_right _ ((List.mem_of_getElem? (i := 218) rfl)))))
theorem ca_194 : ∀ a, a < 195 → wCode a ∈ tables_1 := lt_s ca_193 cw_194
theorem cw_195 : wCode 195 ∈ tables_1 := List.mem_append_right _ (List.mem_append_right _ (List.mem_append_right _ (List.mem_append_right _ ((List.mem_of_getElem? (i := 214) rfl)))))
theorem ca_195 : ∀ a, a < 196 → wCode a ∈ tables_1 := lt_s ca_194 cw_195
theorem cw_196 : wCode 196 ∈ tables_1 := List.mem_append_right _ (List.mem_append_right _ (List.mem_append_right _ (List.mem_append_right _ ((List.mem_of_getElem? (i := 227) rfl)))))
theorem ca_196 : ∀ a, a < 197 → wCode a ∈ tables_1 := lt_s ca_195 cw_196
theorem cw_197 : wCode 197 ∈ tables_1 := List.mem_append_right _ (List.mem_append_right _ (List.mem_append_right _ (List.mem_append_right _ ((List.mem_of_getElem? (i := 232) rfl)))))
theorem ca_197 : ∀ a, a < 198 → wCode a ∈ tables_1 := lt_s ca_196 cw_197
theorem cw_198 : wCode 198 ∈ tables_1 := List.mem_append_right _ (List.mem_append_right _ (List.mem_append_right _ (List.mem_append_right _ ((List.mem_of_getElem? (i := 222) rfl)))))
theorem ca_198 : ∀ a, a < 199 → wCode a ∈ tables_1 := lt_s ca_197 cw_198
theorem cw_199 : wCode 199 ∈ tables_1 := List.mem_append_right _ (List.mem_append_left _ (List.mem_of_getElem? (i := 160) rfl))
theorem ca_199 : ∀ a, a < 200 → wCode a ∈ tables_1 := lt_s ca_198 cw_199
theorem cw_200 : wCode 200 ∈ tables_1 := List.mem_append_right _ (List.mem_append_left _ (List.mem_of_getElem? (i := 156) rfl))
theorem ca_200 : ∀ a, a < 201 → wCode a ∈ tables_1 := lt_s ca_199 cw_200
theorem cw_201 : wCode 201 ∈ tables_1 := List.mem_append_right _ (List.mem_append_left _ (List.mem_of_getElem? (i := 172) rfl))
theorem ca_201 : ∀ a, a < 202 → wCode a ∈ tables_1 := lt_s ca_200 cw_201
theorem cw_202 : wCode 202 ∈ tables_1 := List.mem_append_right _ (List.mem_append_left _ (List.mem_of_getElem? (i := 175) rfl))
theorem ca_202 : ∀ a, a < 203 → wCode a ∈ tables_1 := lt_s ca_201 cw_202
theorem cw_203 : wCode 203 ∈ tables_1 := List.mem_append_right _ (List.mem_append_left _ (List.mem_of_getElem? (i := 183) rfl))
theorem ca_203 : ∀ a, a < 204 → wCode a ∈ tables_1 := lt_s ca_202 cw_203
theorem wCode_in {k : Nat} (hk : k < 204) : wCode k ∈ tblG := List.mem_filter.mpr ⟨List.mem_append_left _ (List.mem_append_right _ (ca_203 k hk)), rfl⟩
theorem lay_0 : (List.range 0).all (fun k => tAt (([] : List Nat).getD k 0) (u_lay RX0 TX0 k)) = true := by decide +kernel
theorem inX_0 : ∀ w ∈ u_ws RX0 TX0 0, w ∈ tblG := by
  intro w hw
  obtain ⟨k, hk, rfl⟩ := List.mem_map.mp hw
  exact tAt_in (List.all_eq_true.mp lay_0 k hk)
theorem lay_1 : (List.range 0).all (fun k => tAt (([] : List Nat).getD k 0) (u_lay RX1 TX1 k)) = true := by decide +kernel
theorem inX_1 : ∀ w ∈ u_ws RX1 TX1 0, w ∈ tblG := by
  intro w hw
  obtain ⟨k, hk, rfl⟩ := List.mem_map.mp hw
  exact tAt_in (List.all_eq_true.mp lay_1 k hk)
theorem lay_2 : (List.range 2).all (fun k => tAt (([645, 646] : List Nat).getD k 0) (u_lay RX2 TX2 k)) = true := by decide +kernel
theorem inX_2 : ∀ w ∈ u_ws RX2 TX2 2, w ∈ tblG := by
  intro w hw
  obtain ⟨k, hk, rfl⟩ := List.mem_map.mp hw
  exact tAt_in (List.all_eq_true.mp lay_2 k hk)
theorem lay_3 : (List.range 1).all (fun k => tAt (([198] : List Nat).getD k 0) (u_lay RX3 TX3 k)) = true := by decide +kernel
theorem inX_3 : ∀ w ∈ u_ws RX3 TX3 1, w ∈ tblG := by
  intro w hw
  obtain ⟨k, hk, rfl⟩ := List.mem_map.mp hw
  exact tAt_in (List.all_eq_true.mp lay_3 k hk)
theorem lay_4 : (List.range 2).all (fun k => tAt (([634, 636] : List Nat).getD k 0) (u_lay RX4 TX4 k)) = true := by decide +kernel
theorem inX_4 : ∀ w ∈ u_ws RX4 TX4 2, w ∈ tblG := by
  intro w hw
  obtain ⟨k, hk, rfl⟩ := List.mem_map.mp hw
  exact tAt_in (List.all_eq_true.mp lay_4 k hk)
theorem lay_5 : (List.range 8).all (fun k => tAt (([107, 109, 111, 113, 115, 117, 119, 121] : List Nat).getD k 0) (u_lay RX5 TX5 k)) = true := by decide +kernel
theorem inX_5 : ∀ w ∈ u_ws RX5 TX5 8, w ∈ tblG := by
  intro w hw
  obtain ⟨k, hk, rfl⟩ := List.mem_map.mp hw
  exact tAt_in (List.all_eq_true.mp lay_5 k hk)
theorem lay_6 : (List.range 3).all (fun k => tAt (([85, 87, 89] : List Nat).getD k 0) (u_lay RX6 TX6 k)) = true := by decide +kernel
theorem inX_6 : ∀ w ∈ u_ws RX6 TX6 3, w ∈ tblG := by
  intro w hw
  obtain ⟨k, hk, rfl⟩ := List.mem_map.mp hw
  exact tAt_in (List.all_eq_true.mp lay_6 k hk)
theorem lay_7 : (List.range 0).all (fun k => tAt (([] : List Nat).getD k 0) (u_lay RX7 TX7 k)) = true := by decide +kernel
theorem inX_7 : ∀ w ∈ u_ws RX7 TX7 0, w ∈ tblG := by
  intro w hw
  obtain ⟨k, hk, rfl⟩ := List.mem_map.mp hw
  exact tAt_in (List.all_eq_true.mp lay_7 k hk)
theorem lay_8 : (List.range 5).all (fun k => tAt (([166, 168, 170, 172, 174] : List Nat).getD k 0) (u_lay RX8 TX8 k)) = true := by decide +kernel
theorem inX_8 : ∀ w ∈ u_ws RX8 TX8 5, w ∈ tblG := by
  intro w hw
  obtain ⟨k, hk, rfl⟩ := List.mem_map.mp hw
  exact tAt_in (List.all_eq_true.mp lay_8 k hk)
theorem lay_9 : (List.range 2).all (fun k => tAt (([186, 188] : List Nat).getD k 0) (u_lay RX9 TX9 k)) = true := by decide +kernel
theorem inX_9 : ∀ w ∈ u_ws RX9 TX9 2, w ∈ tblG := by
  intro w hw
  obtain ⟨k, hk, rfl⟩ := List.mem_map.mp hw
  exact tAt_in (List.all_eq_true.mp lay_9 k hk)
theorem lay_10 : (List.range 6).all (fun k => tAt (([136, 138, 140, 142, 144, 146] : List Nat).getD k 0) (u_lay RX10 TX10 k)) = true := by decide +kernel
theorem inX_10 : ∀ w ∈ u_ws RX10 TX10 6, w ∈ tblG := by
  intro w hw
  obtain ⟨k, hk, rfl⟩ := List.mem_map.mp hw
  exact tAt_in (List.all_eq_true.mp lay_10 k hk)
theorem lay_11 : (List.range 13).all (fun k => tAt (([216, 218, 220, 222, 224, 226, 228, 230, 232, 234, 236, 238, 240] : List Nat).getD k 0) (u_lay RX11 TX11 k)) = true := by decide +kernel
theorem inX_11 : ∀ w ∈ u_ws RX11 TX11 13, w ∈ tblG := by
  intro w hw
  obtain ⟨k, hk, rfl⟩ := List.mem_map.mp hw
  exact tAt_in (List.all_eq_true.mp lay_11 k hk)
theorem lay_12 : (List.range 47).all (fun k => tAt (([866, 868, 870, 872, 874, 876, 878, 880, 882, 884, 886, 888, 890, 892, 894, 896, 898, 900, 902, 904, 906, 908, 910, 912, 914, 916, 918, 920, 922, 924, 926, 928, 930, 932, 934, 936, 938, 940, 942, 944, 946, 948, 950, 952, 954, 956, 958] : List Nat).getD k 0) (u_lay RX12 TX12 k)) = true := by decide +kernel
theorem inX_12 : ∀ w ∈ u_ws RX12 TX12 47, w ∈ tblG := by
  intro w hw
  obtain ⟨k, hk, rfl⟩ := List.mem_map.mp hw
  exact tAt_in (List.all_eq_true.mp lay_12 k hk)
abbrev FLE : Type := Nat × Nat × Nat × Nat × Nat
/-- (position, own class, pool index, declaring class, slot) -/
def flT : List FLE := [(197, 3, 7, 3, 0), (632, 4, 9, 4, 0), (633, 4, 15, 4, 1), (99, 5, 9, 5, 0), (100, 5, 15, 5, 1), (101, 5, 18, 5, 2), (102, 5, 21, 5, 3), (103, 5, 24, 5, 4), (105, 5, 27, 5, 6), (106, 5, 31, 5, 7), (104, 5, 34, 5, 5), (82, 6, 9, 6, 0), (83, 6, 15, 6, 1), (84, 6, 37, 6, 2), (162, 8, 11, 8, 1), (163, 8, 15, 8, 2), (164, 8, 19, 8, 3), (165, 8, 22, 8, 4), (161, 8, 26, 8, 0), (184, 9, 9, 9, 0), (185, 9, 15, 9, 1), (131, 10, 9, 10, 1), (130, 10, 15, 10, 0), (133, 10, 19, 10, 3), (134, 10, 23, 10, 4), (135, 10, 26, 10, 5), (132, 10, 29, 10, 2), (203, 11, 10, 11, 0), (204, 11, 19, 11, 1), (205, 11, 28, 11, 2), (206, 11, 32, 11, 3), (207, 11, 35, 11, 4), (208, 11, 41, 11, 5), (209, 11, 50, 11, 6), (210, 11, 57, 11, 7), (211, 11, 63, 11, 8), (215, 11, 92, 11, 12), (213, 11, 96, 11, 10), (214, 11, 181, 11, 11), (212, 11, 209, 11, 9), (823, 12, 7, 12, 4), (824, 12, 13, 12, 5), (825, 12, 16, 12, 6), (826, 12, 19, 12, 7), (829, 12, 22, 12, 10), (831, 12, 25, 12, 12), (834, 12, 28, 12, 15), (839, 12, 32, 12, 20), (840, 12, 35, 12, 21), (846, 12, 38, 12, 27), (847, 12, 41, 12, 28), (848, 12, 44, 12, 29), (849, 12, 47, 12, 30), (850, 12, 50, 12, 31), (852, 12, 54, 12, 33), (853, 12, 57, 12, 34), (855, 12, 61, 12, 36), (859, 12, 65, 12, 40), (860, 12, 68, 12, 41), (862, 12, 71, 12, 43), (863, 12, 74, 12, 44), (864, 12, 77, 12, 45), (833, 12, 82, 12, 14), (844, 12, 90, 12, 25), (845, 12, 93, 12, 26), (843, 12, 96, 12, 24), (841, 12, 106, 12, 22), (842, 12, 109, 12, 23), (819, 12, 116, 12, 0), (821, 12, 119, 12, 2), (822, 12, 122, 12, 3), (827, 12, 125, 12, 8), (828, 12, 128, 12, 9), (820, 12, 131, 12, 1), (851, 12, 160, 12, 32), (854, 12, 163, 12, 35), (856, 12, 166, 12, 37), (857, 12, 169, 12, 38), (858, 12, 172, 12, 39), (832, 12, 218, 12, 13), (830, 12, 244, 12, 11), (861, 12, 252, 12, 42), (835, 12, 287, 12, 16), (836, 12, 290, 12, 17), (837, 12, 293, 12, 18), (838, 12, 296, 12, 19), (865, 12, 304, 12, 46)]
def flChk (e : FLE) : Bool := tAt e.1 (.fieldLink (rcl e.2.1) e.2.2.1 (TT e.2.2.2.1 e.2.2.2.2).1 (TT e.2.2.2.1 e.2.2.2.2).2.1 (TT e.2.2.2.1 e.2.2.2.2).2.2.1) && decide (e.2.2.2.2 < nF e.2.2.2.1) && decide (e.2.2.2.1 < 13)
theorem flT_ok : flT.all flChk = true := by decide +kernel
/-- virtual, plain: (methodLink, instanceMethod, selects, own, index, receiver class, method) -/
def vT : List (Nat × Nat × Nat × Nat × Nat × Nat × Nat) := [(684, 434, 435, 0, 11, 10, 84), (685, 438, 439, 0, 17, 10, 85), (686, 400, 401, 0, 20, 10, 82), (687, 481, 482, 0, 23, 8, 59), (688, 689, 690, 0, 29, 10, 87), (697, 598, 599, 1, 9, 10, 86), (699, 700, 701, 1, 21, 3, 11), (707, 689, 690, 1, 26, 10, 87), (747, 361, 362, 2, 9, 5, 32), (711, 712, 713, 4, 18, 10, 79), (715, 716, 717, 4, 24, 5, 28), (732, 733, 734, 4, 34, 5, 29), (726, 312, 313, 4, 41, 5, 26), (727, 357, 358, 4, 44, 10, 78), (736, 738, 13, 4, 48, 4, 17), (740, 741, 742, 4, 52, 4, 16), (749, 689, 690, 4, 56, 10, 87), (728, 349, 350, 4, 59, 5, 30), (729, 353, 354, 4, 62, 5, 31), (320, 322, 0, 5, 45, 5, 24), (324, 326, 1, 5, 49, 5, 25), (380, 381, 382, 5, 52, 5, 34), (384, 385, 386, 5, 56, 5, 27), (301, 273, 274, 6, 33, 6, 45), (276, 277, 278, 6, 40, 6, 41), (306, 307, 308, 6, 59, 5, 21), (311, 312, 313, 6, 65, 5, 26), (315, 316, 317, 6, 68, 5, 22), (328, 329, 330, 6, 72, 10, 72), (752, 689, 690, 7, 7, 10, 87), (449, 385, 386, 8, 42, 5, 27), (445, 447, 5, 8, 48, 8, 200), (456, 458, 6, 8, 58, 8, 57), (484, 377, 378, 8, 62, 5, 37), (468, 470, 8, 8, 65, 8, 62), (460, 381, 382, 8, 68, 5, 34), (461, 463, 7, 8, 72, 8, 201), (472, 312, 313, 8, 81, 5, 26), (574, 576, 10, 8, 84, 8, 61), (584, 586, 11, 8, 92, 8, 64), (514, 385, 386, 9, 19, 5, 27), (515, 516, 517, 9, 25, 5, 35), (519, 520, 521, 9, 28, 5, 36), (532, 381, 382, 9, 38, 5, 34), (561, 562, 563, 9, 42, 5, 33), (542, 442, 443, 9, 45, 8, 58), (543, 545, 9, 9, 51, 9, 70), (548, 333, 334, 9, 55, 8, 55), (547, 316, 317, 9, 58, 5, 22), (549, 550, 551, 9, 62, 5, 23), (501, 425, 426, 10, 40, 10, 75), (376, 377, 378, 10, 43, 5, 37), (601, 385, 386, 10, 49, 5, 27), (692, 312, 313, 10, 53, 5, 26), (693, 357, 358, 10, 56, 10, 78), (247, 248, 249, 11, 67, 6, 42), (260, 261, 262, 11, 71, 6, 39), (264, 265, 266, 11, 75, 6, 40), (272, 273, 274, 11, 78, 6, 45), (297, 298, 299, 11, 81, 6, 44), (302, 303, 304, 11, 85, 6, 50), (332, 333, 334, 11, 89, 8, 55), (339, 312, 313, 11, 100, 5, 26), (344, 346, 2, 11, 101, 11, 116), (348, 349, 350, 11, 105, 5, 30), (352, 353, 354, 11, 109, 5, 31), (356, 357, 358, 11, 112, 10, 78), (360, 361, 362, 11, 115, 5, 32), (368, 370, 3, 11, 118, 11, 115), (372, 373, 374, 11, 121, 10, 77), (395, 396, 397, 11, 127, 10, 80), (399, 400, 401, 11, 130, 10, 82), (403, 404, 405, 11, 133, 10, 83), (411, 413, 4, 11, 137, 11, 119), (415, 416, 417, 11, 140, 10, 74), (424, 425, 426, 11, 143, 10, 75), (433, 434, 435, 11, 146, 10, 84), (437, 438, 439, 11, 149, 10, 85), (441, 442, 443, 11, 152, 8, 58), (480, 481, 482, 11, 156, 8, 59), (493, 494, 495, 11, 159, 10, 73), (497, 498, 499, 11, 163, 10, 76), (502, 503, 504, 11, 166, 10, 81), (510, 511, 512, 11, 169, 9, 66), (527, 528, 529, 11, 173, 9, 67), (538, 539, 540, 11, 184, 9, 69), (557, 558, 559, 11, 187, 9, 68), (565, 562, 563, 11, 190, 5, 33), (570, 571, 572, 11, 193, 8, 60), (597, 598, 599, 11, 197, 10, 86), (662, 664, 12, 11, 216, 11, 120), (673, 674, 675, 11, 223, 3, 10), (677, 678, 679, 11, 226, 7, 53), (757, 759, 14, 11, 230, 11, 123), (761, 762, 763, 11, 234, 3, 12), (783, 341, 342, 11, 241, 11, 93), (784, 365, 366, 11, 244, 11, 94), (785, 430, 431, 11, 247, 11, 98), (786, 477, 478, 11, 250, 11, 99), (787, 490, 491, 11, 253, 11, 101), (788, 507, 508, 11, 256, 11, 102), (789, 524, 525, 11, 259, 11, 103), (790, 554, 555, 11, 262, 11, 105), (791, 567, 568, 11, 265, 11, 106), (792, 793, 794, 11, 268, 7, 52), (809, 277, 278, 11, 271, 6, 41), (810, 774, 775, 11, 274, 11, 113), (987, 989, 17, 12, 99, 12, 134), (980, 982, 16, 12, 103, 12, 133), (976, 978, 15, 12, 113, 12, 135), (999, 1001, 18, 12, 134, 12, 138), (1003, 1005, 19, 12, 138, 12, 139), (1023, 1025, 23, 12, 145, 12, 141), (1015, 1017, 21, 12, 149, 12, 143), (1019, 1021, 22, 12, 153, 12, 142), (1011, 1013, 20, 12, 156, 12, 144), (1041, 1043, 25, 12, 178, 12, 146), (1045, 1047, 26, 12, 182, 12, 147), (1049, 1051, 27, 12, 185, 12, 149), (1037, 1039, 24, 12, 191, 12, 150), (1064, 1066, 29, 12, 194, 12, 153), (1060, 1062, 28, 12, 197, 12, 154), (1092, 1094, 31, 12, 200, 12, 161), (1088, 1090, 30, 12, 203, 12, 160), (1100, 1102, 32, 12, 206, 12, 163), (1108, 1110, 33, 12, 212, 12, 166), (1123, 1125, 35, 12, 215, 12, 168), (1119, 1121, 34, 12, 221, 12, 169), (1131, 1133, 36, 12, 225, 12, 171), (1144, 1146, 38, 12, 232, 12, 174), (1151, 1153, 39, 12, 235, 12, 175), (1140, 1142, 37, 12, 241, 12, 177), (1167, 1169, 40, 12, 247, 12, 180), (1187, 1189, 44, 12, 262, 12, 184), (1191, 1193, 45, 12, 265, 12, 185), (1179, 1181, 42, 12, 268, 12, 183), (1183, 1185, 43, 12, 271, 12, 186), (1195, 1197, 46, 12, 275, 12, 187), (1199, 1201, 47, 12, 278, 12, 182), (1175, 1177, 41, 12, 281, 12, 188), (1211, 1213, 48, 12, 284, 12, 190), (1227, 1229, 49, 12, 299, 12, 194), (1236, 1238, 50, 12, 307, 12, 196), (1241, 1243, 51, 12, 313, 12, 197), (243, 244, 245, 13, 15, 11, 89), (963, 964, 965, 13, 19, 12, 131), (256, 257, 258, 13, 20, 11, 90), (968, 969, 970, 13, 24, 12, 132), (268, 269, 270, 13, 25, 11, 91), (972, 973, 974, 13, 28, 12, 136), (293, 294, 295, 13, 29, 11, 92), (991, 992, 993, 13, 32, 12, 137), (340, 341, 342, 13, 33, 11, 93), (995, 996, 997, 13, 37, 12, 140), (364, 365, 366, 13, 38, 11, 94), (1007, 1008, 1009, 13, 41, 12, 145), (388, 389, 390, 13, 42, 11, 95), (1068, 1069, 1070, 13, 46, 12, 156), (407, 408, 409, 13, 47, 11, 96), (1072, 1073, 1074, 13, 50, 12, 157), (420, 421, 422, 13, 51, 11, 97), (1076, 1077, 1078, 13, 54, 12, 158), (429, 430, 431, 13, 55, 11, 98), (1030, 1031, 1032, 13, 58, 12, 152), (476, 477, 478, 13, 59, 11, 99), (1056, 1057, 1058, 13, 62, 12, 155), (485, 486, 487, 13, 63, 11, 100), (1080, 1081, 1082, 13, 66, 12, 159), (489, 490, 491, 13, 67, 11, 101), (1084, 1085, 1086, 13, 70, 12, 162), (506, 507, 508, 13, 71, 11, 102), (1096, 1097, 1098, 13, 74, 12, 164), (523, 524, 525, 13, 75, 11, 103), (1104, 1105, 1106, 13, 78, 12, 167), (534, 535, 536, 13, 79, 11, 104), (1115, 1116, 1117, 13, 82, 12, 170), (553, 554, 555, 13, 83, 11, 105), (1127, 1128, 1129, 13, 86, 12, 172), (566, 567, 568, 13, 87, 11, 106), (1136, 1137, 1138, 13, 90, 12, 178), (606, 607, 608, 13, 91, 11, 107), (1159, 1160, 1161, 13, 94, 12, 179), (658, 659, 660, 13, 95, 11, 108), (1163, 1164, 1165, 13, 98, 12, 181), (669, 670, 671, 13, 99, 11, 109), (1171, 1172, 1173, 13, 102, 12, 189), (753, 754, 755, 13, 103, 11, 110), (1207, 1208, 1209, 13, 107, 12, 191), (765, 766, 767, 13, 108, 11, 111), (1215, 1216, 1217, 13, 111, 12, 192), (769, 770, 771, 13, 112, 11, 112), (1219, 1220, 1221, 13, 115, 12, 193), (773, 774, 775, 13, 116, 11, 113), (1223, 1224, 1225, 13, 119, 12, 195), (777, 778, 779, 13, 120, 11, 114), (1231, 1232, 1233, 13, 124, 12, 198)]
def vChk (e : Nat × Nat × Nat × Nat × Nat × Nat × Nat) : Bool := tAt e.1 (.methodLink (rcl e.2.2.2.1) e.2.2.2.2.1 (mName e.2.2.2.2.2.2)) && tAt e.2.1 (.instanceMethod (mName e.2.2.2.2.2.2)) && tAt e.2.2.1 (.selects (rcl e.2.2.2.2.2.1) (mName e.2.2.2.2.2.2) (mName e.2.2.2.2.2.2)) && decide (e.2.2.2.2.2.2 < 204) && decide (e.2.2.2.2.2.1 < 13)
theorem vT_ok : vT.all vChk = true := by decide +kernel
/-- virtual, another method than the named one: (methodLink, sameMethod, instanceMethod of the owner, selects, instanceMethod, own, index, receiver class, method, the method named) -/
def uT : List (List Nat) := [[736, 1246, 738, 1252, 738, 4, 48, 2, 17, 17], [740, 743, 741, 744, 745, 4, 52, 2, 8, 16], [677, 680, 678, 681, 682, 11, 226, 0, 2, 53], [677, 680, 678, 694, 695, 11, 226, 1, 5, 53], [677, 680, 678, 708, 709, 11, 226, 2, 15, 53], [677, 680, 678, 750, 709, 11, 226, 4, 15, 53], [792, 795, 793, 796, 797, 11, 268, 0, 1, 52], [792, 795, 793, 799, 800, 11, 268, 1, 4, 52], [792, 795, 793, 802, 803, 11, 268, 2, 7, 52], [792, 795, 793, 805, 806, 11, 268, 4, 14, 52]]
def uChk (e : List Nat) : Bool := tAt (e.getD 0 0) (.methodLink (rcl (e.getD 5 0)) (e.getD 6 0) (mName (e.getD 9 0))) && tAt (e.getD 1 0) (.sameMethod (mName (e.getD 9 0)).cls (mName (e.getD 9 0)).cls (mName (e.getD 9 0)).name (mName (e.getD 9 0)).desc) && tAt (e.getD 2 0) (.instanceMethod (mName (e.getD 9 0))) && tAt (e.getD 3 0) (.selects (rcl (e.getD 7 0)) (mName (e.getD 9 0)) (mName (e.getD 8 0))) && tAt (e.getD 4 0) (.instanceMethod (mName (e.getD 8 0))) && decide (e.getD 8 0 < 204) && decide (e.getD 9 0 < 204) && decide (e.getD 7 0 < 13) && decide (mArg (e.getD 8 0) = mArg (e.getD 9 0))
theorem uT_ok : uT.all uChk = true := by decide +kernel
/-- static: (methodLink, static, own, index, method) -/
def sT : List FLE := [(698, 451, 1, 15, 199), (719, 720, 4, 30, 18), (723, 724, 4, 75, 19), (251, 252, 6, 23, 43), (281, 282, 6, 44, 46), (284, 285, 6, 48, 48), (287, 288, 6, 52, 47), (290, 291, 6, 56, 49), (336, 337, 8, 38, 56), (450, 451, 8, 52, 199), (594, 595, 8, 103, 63), (531, 451, 9, 32, 199), (392, 393, 11, 124, 117), (533, 451, 11, 176, 199), (602, 579, 11, 200, 124), (603, 604, 11, 203, 125), (610, 611, 11, 206, 118), (613, 614, 11, 212, 121), (666, 667, 11, 219, 122), (984, 985, 12, 86, 129), (1027, 1028, 12, 141, 130), (1053, 1054, 12, 175, 148), (1034, 1035, 12, 188, 151), (1112, 1113, 12, 209, 165), (1148, 1149, 12, 228, 173), (1156, 1157, 12, 238, 176)]
def sChk (e : FLE) : Bool := tAt e.1 (.methodLink (rcl e.2.2.1) e.2.2.2.1 (mName e.2.2.2.2)) && tAt e.2.1 (.static (mName e.2.2.2.2)) && decide (e.2.2.2.2 < 204)
theorem sT_ok : sT.all sChk = true := by decide +kernel
/-- static of a nest mate: (the nest word in lw_tbl, static, own, index, method) -/
def snT : List FLE := [(730, 156, 4, 37, 126), (722, 159, 4, 71, 127), (310, 159, 5, 37, 127), (319, 156, 5, 41, 126), (280, 156, 6, 19, 126), (255, 159, 6, 27, 127), (155, 156, 8, 30, 126), (158, 159, 8, 34, 127), (465, 466, 8, 75, 202), (473, 474, 8, 78, 203), (578, 579, 8, 88, 124), (428, 156, 10, 32, 126), (419, 159, 10, 36, 127)]
def snChk (e : FLE) : Bool := decide (tblX[e.1]? = some (.methodLinkNest (rcl e.2.2.1) e.2.2.2.1 (mName e.2.2.2.2) "CutsOrFast")) && tAt e.2.1 (.static (mName e.2.2.2.2)) && decide (e.2.2.2.2 < 204)
theorem snT_ok : snT.all snChk = true := by decide +kernel
/-- constructors: (methodLink, instanceMethod, own, index, method) -/
def cT : List FLE := [(126, 127, 11, 25, 71), (151, 152, 11, 40, 54), (180, 181, 11, 47, 65), (70, 71, 13, 9, 88), (813, 814, 13, 12, 128)]
def cChk (e : FLE) : Bool := tAt e.1 (.methodLink (rcl e.2.2.1) e.2.2.2.1 (mName e.2.2.2.2)) && tAt e.2.1 (.instanceMethod (mName e.2.2.2.2)) && decide (e.2.2.2.2 < 204) && decide ((mName e.2.2.2.2).name = "<init>") && decide (mRet e.2.2.2.2 = none)
theorem cT_ok : cT.all cChk = true := by decide +kernel
def cnT : List FLE := [(621, 622, 0, 3, 51), (653, 622, 1, 1, 51), (644, 629, 2, 1, 13), (631, 622, 4, 3, 51), (78, 79, 11, 9, 38), (95, 96, 11, 18, 20), (193, 194, 11, 56, 9), (618, 619, 11, 279, 0), (628, 629, 11, 282, 13), (641, 642, 11, 285, 6), (650, 651, 11, 288, 3), (656, 622, 11, 289, 51)]
def cnChk (e : FLE) : Bool := decide (tblX[e.1]? = some (.methodLinkNest (rcl e.2.2.1) e.2.2.2.1 (mName e.2.2.2.2) "CutsOrFast")) && tAt e.2.1 (.instanceMethod (mName e.2.2.2.2)) && decide (e.2.2.2.2 < 204) && decide ((mName e.2.2.2.2).name = "<init>") && decide (mRet e.2.2.2.2 = none)
theorem cnT_ok : cnT.all cnChk = true := by decide +kernel
/-- Object.<init>: (methodLink, own, index) -/
def oT : List (Nat × Nat × Nat) := [(196, 3, 1), (98, 5, 3), (81, 6, 3), (624, 7, 1), (154, 8, 5), (183, 9, 3), (129, 10, 3), (73, 11, 1), (816, 12, 1)]
def oChk (e : Nat × Nat × Nat) : Bool := tAt e.1 (.methodLink (rcl e.2.1) e.2.2 objectInit)
theorem oT_ok : oT.all oChk = true := by decide +kernel
theorem oInst_ok : tAt 74 (.instanceMethod objectInit) = true := by decide +kernel
theorem oCode_ok : tAt 75 (.code objectInit ⟨#[0xb1]⟩ 1 none) = true := by decide +kernel
/-- new: (classLink, instantiable, own, index, class) -/
def nT : List FLE := [(76, 77, 11, 7, 6), (93, 94, 11, 16, 5), (124, 125, 11, 23, 10), (149, 150, 11, 38, 8), (178, 179, 11, 45, 9), (191, 192, 11, 54, 3), (201, 655, 11, 61, 7), (616, 617, 11, 277, 0), (626, 627, 11, 280, 4), (639, 640, 11, 283, 2), (648, 649, 11, 286, 1), (68, 69, 13, 7, 11), (811, 812, 13, 10, 12)]
def nChk (e : FLE) : Bool := tAt e.1 (.classLink (rcl e.2.2.1) e.2.2.2.1 (rcl e.2.2.2.2)) && tAt e.2.1 (.instantiable (rcl e.2.2.2.2) (nF e.2.2.2.2)) && tAt (iPos.getD e.2.2.2.2 0) (.initialized (rcl e.2.2.2.2)) && decide (e.2.2.2.2 < 13)
theorem nT_ok : nT.all nChk = true := by decide +kernel
/-- Math.max, Math.min of ints: (position, own, index) -/
def mxT : List (Nat × Nat × Nat) := [(588, 8, 95)]
def mnT : List (Nat × Nat × Nat) := [(731, 4, 65), (591, 8, 100)]
theorem mxT_ok : mxT.all (fun e => tAt e.1 (.methodLink (rcl e.2.1) e.2.2 Lib.Math.max.name)) = true := by decide +kernel
theorem mnT_ok : mnT.all (fun e => tAt e.1 (.methodLink (rcl e.2.1) e.2.2 Lib.Math.min.name)) = true := by decide +kernel
theorem mth_ok : (tAt 589 (.static Lib.Math.max.name) && tAt 590 (.code Lib.Math.max.name Lib.Math.max.code 2 (some .int)) && tAt 592 (.static Lib.Math.min.name) && tAt 593 (.code Lib.Math.min.name Lib.Math.min.code 2 (some .int)) && tAt 62 (.initialized "java/lang/Math")) = true := by decide +kernel
theorem anw_ok : tAt 201 (.classLink (rcl 11) 61 "CutsOrFast$Player") = true := by decide +kernel
/-- instanceof: (classLink, own, index, the class asked for) -/
def inT : List (Nat × Nat × Nat × Nat) := [(616, 11, 277, 0), (626, 11, 280, 4), (639, 11, 283, 2), (648, 11, 286, 1)]
def inChk (e : Nat × Nat × Nat × Nat) : Bool := tAt e.1 (.classLink (rcl e.2.1) e.2.2.1 (rcl e.2.2.2)) && decide (e.2.2.2 < 13)
theorem inT_ok : inT.all inChk = true := by decide +kernel
/-- constants: (position, own, index, value) -/
def ldT : List (Nat × Nat × Nat × Int32) := [(583, 8, 91, 1048575), (817, 12, 60, 118098), (818, 12, 64, 39366), (1135, 12, 224, 1048576), (1155, 12, 231, 1073741824), (453, 14, 265, 1431655765), (454, 14, 266, 858993459), (455, 14, 267, 252645135)]
def ldChk (e : Nat × Nat × Nat × Int32) : Bool := tAt e.1 (.constant (rcl e.2.1) e.2.2.1 e.2.2.2)
theorem ldT_ok : ldT.all ldChk = true := by decide +kernel
def ldT2 : List (Nat × Nat × Nat × Int64) := [(703, 3, 13, 1103515245), (704, 3, 15, 12345), (705, 3, 17, 2147483647), (706, 3, 19, 65536), (254, 6, 31, 255), (781, 11, 237, 587), (782, 11, 239, 31), (967, 12, 80, 255), (1203, 12, 250, 1103515245), (1204, 12, 256, 12345), (1205, 12, 258, 2147483647), (1206, 12, 260, 65536), (1240, 12, 302, 31), (1235, 12, 311, 587), (1245, 13, 13, 4294967295)]
def ldChk2 (e : Nat × Nat × Nat × Int64) : Bool := tAt e.1 (.constantLong (rcl e.2.1) e.2.2.1 e.2.2.2)
theorem ldT2_ok : ldT2.all ldChk2 = true := by decide +kernel
theorem arr_int : tAt 92 (.arrayClass .int) = true := by decide +kernel
theorem arr_long : tAt 177 (.arrayClass .long) = true := by decide +kernel
theorem arr_byte : tAt 961 (.arrayClass .byte) = true := by decide +kernel
theorem arr_boolean : tAt 962 (.arrayClass .boolean) = true := by decide +kernel
theorem arrO_ok : lw_tbl[202]? = some (.arrayOver (.object "CutsOrFast$Player")) := by decide +kernel
def castY : List (Nat × Nat) := [(2, 4), (0, 7), (4, 7), (2, 7), (1, 7)]
theorem castY_ok : (castY.zip [1247, 1248, 1249, 1250, 1251]).all (fun e => decide (lw_tbl[e.2]? = some (.castable (rcl e.1.1) (rcl e.1.2)))) = true := by decide +kernel
theorem gst_ok : tAt 581 (.fieldLink "CutsOrFast" 290 "CutsOrFast" "FACTORIALS" "[I") = true := by decide +kernel
theorem lst_ok : lw_tbl[582]? = some (.laysStatic "CutsOrFast" "FACTORIALS" "[I") := by decide +kernel
