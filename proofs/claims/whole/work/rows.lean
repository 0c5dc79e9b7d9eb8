section
-- ===== PART A: goes FIRST, ahead of the names: the tables' words, and 'selects' of the private methods out of them =====
/-- a private method of a class that the tables say can be made, by its rows of tables_1 -/
def lw_okq (q : MethodName × Nat) : Prop := (q.1.cls ≠ "java/lang/invoke/MethodHandle" ∧ q.1.cls ≠ "java/lang/invoke/VarHandle") ∧ Cond.instantiable q.1.cls q.2 ∈ tables_1 ∧ Cond.privateMethod q.1 ∈ tables_1 ∧ Cond.instanceMethod q.1 ∈ tables_1
theorem lw_p0 : lw_okq (⟨"HalfFriends", "isNobody", "(I)Z"⟩, 11) := ⟨⟨by decide +kernel, by decide +kernel⟩, List.mem_of_getElem? (i := 19) (by decide +kernel), List.mem_of_getElem? (i := 278) (by decide +kernel), List.mem_of_getElem? (i := 279) (by decide +kernel)⟩
theorem lw_p1 : lw_okq (⟨"HalfFriends", "setMind", "(II)I"⟩, 11) := ⟨⟨by decide +kernel, by decide +kernel⟩, List.mem_of_getElem? (i := 19) (by decide +kernel), List.mem_of_getElem? (i := 365) (by decide +kernel), List.mem_of_getElem? (i := 366) (by decide +kernel)⟩
theorem lw_p2 : lw_okq (⟨"HalfFriends", "setPrice", "(II)I"⟩, 11) := ⟨⟨by decide +kernel, by decide +kernel⟩, List.mem_of_getElem? (i := 19) (by decide +kernel), List.mem_of_getElem? (i := 373) (by decide +kernel), List.mem_of_getElem? (i := 374) (by decide +kernel)⟩
theorem lw_p3 : lw_okq (⟨"HalfFriends", "setPurse", "(II)I"⟩, 11) := ⟨⟨by decide +kernel, by decide +kernel⟩, List.mem_of_getElem? (i := 19) (by decide +kernel), List.mem_of_getElem? (i := 377) (by decide +kernel), List.mem_of_getElem? (i := 378) (by decide +kernel)⟩
theorem lw_p4 : lw_okq (⟨"HalfFriends$Town", "payDues", "()V"⟩, 15) := ⟨⟨by decide +kernel, by decide +kernel⟩, List.mem_of_getElem? (i := 54) (by decide +kernel), List.mem_of_getElem? (i := 493) (by decide +kernel), List.mem_of_getElem? (i := 494) (by decide +kernel)⟩
theorem lw_p5 : lw_okq (⟨"HalfFriends$Town", "pay", "(II)V"⟩, 15) := ⟨⟨by decide +kernel, by decide +kernel⟩, List.mem_of_getElem? (i := 54) (by decide +kernel), List.mem_of_getElem? (i := 498) (by decide +kernel), List.mem_of_getElem? (i := 499) (by decide +kernel)⟩
theorem lw_p6 : lw_okq (⟨"HalfFriends$Town", "lookedAt", "()I"⟩, 15) := ⟨⟨by decide +kernel, by decide +kernel⟩, List.mem_of_getElem? (i := 54) (by decide +kernel), List.mem_of_getElem? (i := 502) (by decide +kernel), List.mem_of_getElem? (i := 503) (by decide +kernel)⟩
theorem lw_p7 : lw_okq (⟨"HalfFriends$Town", "worst", "()I"⟩, 15) := ⟨⟨by decide +kernel, by decide +kernel⟩, List.mem_of_getElem? (i := 54) (by decide +kernel), List.mem_of_getElem? (i := 506) (by decide +kernel), List.mem_of_getElem? (i := 507) (by decide +kernel)⟩
theorem lw_p8 : lw_okq (⟨"HalfFriends$Town", "persuade", "(I)V"⟩, 15) := ⟨⟨by decide +kernel, by decide +kernel⟩, List.mem_of_getElem? (i := 54) (by decide +kernel), List.mem_of_getElem? (i := 511) (by decide +kernel), List.mem_of_getElem? (i := 512) (by decide +kernel)⟩
theorem lw_p9 : lw_okq (⟨"HalfFriends$Town", "offOfAll", "(II)I"⟩, 15) := ⟨⟨by decide +kernel, by decide +kernel⟩, List.mem_of_getElem? (i := 54) (by decide +kernel), List.mem_of_getElem? (i := 515) (by decide +kernel), List.mem_of_getElem? (i := 516) (by decide +kernel)⟩
theorem lw_p10 : lw_okq (⟨"HalfFriends$Town", "haveWhim", "()V"⟩, 15) := ⟨⟨by decide +kernel, by decide +kernel⟩, List.mem_of_getElem? (i := 54) (by decide +kernel), List.mem_of_getElem? (i := 521) (by decide +kernel), List.mem_of_getElem? (i := 522) (by decide +kernel)⟩
theorem lw_p11 : lw_okq (⟨"HalfFriends", "differences", "(LHalfFriends$Row;I)I"⟩, 11) := ⟨⟨by decide +kernel, by decide +kernel⟩, List.mem_of_getElem? (i := 19) (by decide +kernel), List.mem_of_getElem? (i := 556) (by decide +kernel), List.mem_of_getElem? (i := 557) (by decide +kernel)⟩
theorem lw_p12 : lw_okq (⟨"HalfFriends$Reader", "next", "()V"⟩, 9) := ⟨⟨by decide +kernel, by decide +kernel⟩, List.mem_of_getElem? (i := 137) (by decide +kernel), List.mem_of_getElem? (i := 601) (by decide +kernel), List.mem_of_getElem? (i := 602) (by decide +kernel)⟩
theorem lw_p13 : lw_okq (⟨"HalfFriends$Reader", "sortAt", "(I)I"⟩, 9) := ⟨⟨by decide +kernel, by decide +kernel⟩, List.mem_of_getElem? (i := 137) (by decide +kernel), List.mem_of_getElem? (i := 605) (by decide +kernel), List.mem_of_getElem? (i := 606) (by decide +kernel)⟩
theorem lw_p14 : lw_okq (⟨"HalfFriends$Reader", "keyHere", "()I"⟩, 9) := ⟨⟨by decide +kernel, by decide +kernel⟩, List.mem_of_getElem? (i := 137) (by decide +kernel), List.mem_of_getElem? (i := 609) (by decide +kernel), List.mem_of_getElem? (i := 610) (by decide +kernel)⟩
theorem lw_p15 : lw_okq (⟨"HalfFriends$Reader", "isHere", "(Ljava/lang/String;)Z"⟩, 9) := ⟨⟨by decide +kernel, by decide +kernel⟩, List.mem_of_getElem? (i := 137) (by decide +kernel), List.mem_of_getElem? (i := 614) (by decide +kernel), List.mem_of_getElem? (i := 615) (by decide +kernel)⟩
def lw_privs_1 : List (MethodName × Nat) := [(⟨"HalfFriends", "isNobody", "(I)Z"⟩, 11), (⟨"HalfFriends", "setMind", "(II)I"⟩, 11), (⟨"HalfFriends", "setPrice", "(II)I"⟩, 11), (⟨"HalfFriends", "setPurse", "(II)I"⟩, 11), (⟨"HalfFriends$Town", "payDues", "()V"⟩, 15), (⟨"HalfFriends$Town", "pay", "(II)V"⟩, 15), (⟨"HalfFriends$Town", "lookedAt", "()I"⟩, 15), (⟨"HalfFriends$Town", "worst", "()I"⟩, 15), (⟨"HalfFriends$Town", "persuade", "(I)V"⟩, 15), (⟨"HalfFriends$Town", "offOfAll", "(II)I"⟩, 15), (⟨"HalfFriends$Town", "haveWhim", "()V"⟩, 15), (⟨"HalfFriends", "differences", "(LHalfFriends$Row;I)I"⟩, 11), (⟨"HalfFriends$Reader", "next", "()V"⟩, 9), (⟨"HalfFriends$Reader", "sortAt", "(I)I"⟩, 9), (⟨"HalfFriends$Reader", "keyHere", "()I"⟩, 9), (⟨"HalfFriends$Reader", "isHere", "(Ljava/lang/String;)Z"⟩, 9)]
theorem lw_r1 : ∀ q ∈ lw_privs_1, lw_okq q := List.forall_mem_cons.mpr ⟨lw_p0, List.forall_mem_cons.mpr ⟨lw_p1, List.forall_mem_cons.mpr ⟨lw_p2, List.forall_mem_cons.mpr ⟨lw_p3, List.forall_mem_cons.mpr ⟨lw_p4, List.forall_mem_cons.mpr ⟨lw_p5, List.forall_mem_cons.mpr ⟨lw_p6, List.forall_mem_cons.mpr ⟨lw_p7, List.forall_mem_cons.mpr ⟨lw_p8, List.forall_mem_cons.mpr ⟨lw_p9, List.forall_mem_cons.mpr ⟨lw_p10, List.forall_mem_cons.mpr ⟨lw_p11, List.forall_mem_cons.mpr ⟨lw_p12, List.forall_mem_cons.mpr ⟨lw_p13, List.forall_mem_cons.mpr ⟨lw_p14, List.forall_mem_cons.mpr ⟨lw_p15, fun _ h => absurd h List.not_mem_nil⟩⟩⟩⟩⟩⟩⟩⟩⟩⟩⟩⟩⟩⟩⟩⟩
theorem lw_p16 : lw_okq (⟨"HalfFriends$Reader", "level", "(III)Z"⟩, 9) := ⟨⟨by decide +kernel, by decide +kernel⟩, List.mem_of_getElem? (i := 137) (by decide +kernel), List.mem_of_getElem? (i := 668) (by decide +kernel), List.mem_of_getElem? (i := 669) (by decide +kernel)⟩
theorem lw_p17 : lw_okq (⟨"HalfFriends$Reader", "piece", "(II)Z"⟩, 9) := ⟨⟨by decide +kernel, by decide +kernel⟩, List.mem_of_getElem? (i := 137) (by decide +kernel), List.mem_of_getElem? (i := 672) (by decide +kernel), List.mem_of_getElem? (i := 673) (by decide +kernel)⟩
theorem lw_p18 : lw_okq (⟨"HalfFriends$Reader", "negated", "(II)Z"⟩, 9) := ⟨⟨by decide +kernel, by decide +kernel⟩, List.mem_of_getElem? (i := 137) (by decide +kernel), List.mem_of_getElem? (i := 676) (by decide +kernel), List.mem_of_getElem? (i := 677) (by decide +kernel)⟩
theorem lw_p19 : lw_okq (⟨"HalfFriends$Reader", "put", "(I)V"⟩, 9) := ⟨⟨by decide +kernel, by decide +kernel⟩, List.mem_of_getElem? (i := 137) (by decide +kernel), List.mem_of_getElem? (i := 680) (by decide +kernel), List.mem_of_getElem? (i := 681) (by decide +kernel)⟩
theorem lw_p20 : lw_okq (⟨"HalfFriends$Reader", "enclosed", "(II)Z"⟩, 9) := ⟨⟨by decide +kernel, by decide +kernel⟩, List.mem_of_getElem? (i := 137) (by decide +kernel), List.mem_of_getElem? (i := 684) (by decide +kernel), List.mem_of_getElem? (i := 685) (by decide +kernel)⟩
theorem lw_p21 : lw_okq (⟨"HalfFriends$Reader", "number", "()Z"⟩, 9) := ⟨⟨by decide +kernel, by decide +kernel⟩, List.mem_of_getElem? (i := 137) (by decide +kernel), List.mem_of_getElem? (i := 688) (by decide +kernel), List.mem_of_getElem? (i := 689) (by decide +kernel)⟩
theorem lw_p22 : lw_okq (⟨"HalfFriends$Reader", "name", "()Z"⟩, 9) := ⟨⟨by decide +kernel, by decide +kernel⟩, List.mem_of_getElem? (i := 137) (by decide +kernel), List.mem_of_getElem? (i := 692) (by decide +kernel), List.mem_of_getElem? (i := 693) (by decide +kernel)⟩
theorem lw_p23 : lw_okq (⟨"HalfFriends$Reader", "joinsHere", "(I)Z"⟩, 9) := ⟨⟨by decide +kernel, by decide +kernel⟩, List.mem_of_getElem? (i := 137) (by decide +kernel), List.mem_of_getElem? (i := 754) (by decide +kernel), List.mem_of_getElem? (i := 755) (by decide +kernel)⟩
theorem lw_p24 : lw_okq (⟨"HalfFriendsModel", "comes", "(III)V"⟩, 31) := ⟨⟨by decide +kernel, by decide +kernel⟩, List.mem_of_getElem? (i := 865) (by decide +kernel), List.mem_of_getElem? (i := 976) (by decide +kernel), List.mem_of_getElem? (i := 977) (by decide +kernel)⟩
theorem lw_p25 : lw_okq (⟨"HalfFriendsModel", "sets", "(III)V"⟩, 31) := ⟨⟨by decide +kernel, by decide +kernel⟩, List.mem_of_getElem? (i := 865) (by decide +kernel), List.mem_of_getElem? (i := 980) (by decide +kernel), List.mem_of_getElem? (i := 981) (by decide +kernel)⟩
theorem lw_p26 : lw_okq (⟨"HalfFriendsModel", "isOne", "(I)Z"⟩, 31) := ⟨⟨by decide +kernel, by decide +kernel⟩, List.mem_of_getElem? (i := 865) (by decide +kernel), List.mem_of_getElem? (i := 988) (by decide +kernel), List.mem_of_getElem? (i := 989) (by decide +kernel)⟩
theorem lw_p27 : lw_okq (⟨"HalfFriendsModel", "of", "(II)I"⟩, 31) := ⟨⟨by decide +kernel, by decide +kernel⟩, List.mem_of_getElem? (i := 865) (by decide +kernel), List.mem_of_getElem? (i := 992) (by decide +kernel), List.mem_of_getElem? (i := 993) (by decide +kernel)⟩
theorem lw_p28 : lw_okq (⟨"HalfFriendsModel", "offOf", "(I)I"⟩, 31) := ⟨⟨by decide +kernel, by decide +kernel⟩, List.mem_of_getElem? (i := 865) (by decide +kernel), List.mem_of_getElem? (i := 996) (by decide +kernel), List.mem_of_getElem? (i := 997) (by decide +kernel)⟩
theorem lw_p29 : lw_okq (⟨"HalfFriendsModel", "forNow", "()I"⟩, 31) := ⟨⟨by decide +kernel, by decide +kernel⟩, List.mem_of_getElem? (i := 865) (by decide +kernel), List.mem_of_getElem? (i := 1000) (by decide +kernel), List.mem_of_getElem? (i := 1001) (by decide +kernel)⟩
theorem lw_p30 : lw_okq (⟨"HalfFriendsModel", "offBy", "(II)I"⟩, 31) := ⟨⟨by decide +kernel, by decide +kernel⟩, List.mem_of_getElem? (i := 865) (by decide +kernel), List.mem_of_getElem? (i := 1004) (by decide +kernel), List.mem_of_getElem? (i := 1005) (by decide +kernel)⟩
theorem lw_p31 : lw_okq (⟨"HalfFriendsModel", "dues", "(I)I"⟩, 31) := ⟨⟨by decide +kernel, by decide +kernel⟩, List.mem_of_getElem? (i := 865) (by decide +kernel), List.mem_of_getElem? (i := 1014) (by decide +kernel), List.mem_of_getElem? (i := 1015) (by decide +kernel)⟩
def lw_privs_2 : List (MethodName × Nat) := [(⟨"HalfFriends$Reader", "level", "(III)Z"⟩, 9), (⟨"HalfFriends$Reader", "piece", "(II)Z"⟩, 9), (⟨"HalfFriends$Reader", "negated", "(II)Z"⟩, 9), (⟨"HalfFriends$Reader", "put", "(I)V"⟩, 9), (⟨"HalfFriends$Reader", "enclosed", "(II)Z"⟩, 9), (⟨"HalfFriends$Reader", "number", "()Z"⟩, 9), (⟨"HalfFriends$Reader", "name", "()Z"⟩, 9), (⟨"HalfFriends$Reader", "joinsHere", "(I)Z"⟩, 9), (⟨"HalfFriendsModel", "comes", "(III)V"⟩, 31), (⟨"HalfFriendsModel", "sets", "(III)V"⟩, 31), (⟨"HalfFriendsModel", "isOne", "(I)Z"⟩, 31), (⟨"HalfFriendsModel", "of", "(II)I"⟩, 31), (⟨"HalfFriendsModel", "offOf", "(I)I"⟩, 31), (⟨"HalfFriendsModel", "forNow", "()I"⟩, 31), (⟨"HalfFriendsModel", "offBy", "(II)I"⟩, 31), (⟨"HalfFriendsModel", "dues", "(I)I"⟩, 31)]
theorem lw_r2 : ∀ q ∈ lw_privs_2, lw_okq q := List.forall_mem_cons.mpr ⟨lw_p16, List.forall_mem_cons.mpr ⟨lw_p17, List.forall_mem_cons.mpr ⟨lw_p18, List.forall_mem_cons.mpr ⟨lw_p19, List.forall_mem_cons.mpr ⟨lw_p20, List.forall_mem_cons.mpr ⟨lw_p21, List.forall_mem_cons.mpr ⟨lw_p22, List.forall_mem_cons.mpr ⟨lw_p23, List.forall_mem_cons.mpr ⟨lw_p24, List.forall_mem_cons.mpr ⟨lw_p25, List.forall_mem_cons.mpr ⟨lw_p26, List.forall_mem_cons.mpr ⟨lw_p27, List.forall_mem_cons.mpr ⟨lw_p28, List.forall_mem_cons.mpr ⟨lw_p29, List.forall_mem_cons.mpr ⟨lw_p30, List.forall_mem_cons.mpr ⟨lw_p31, fun _ h => absurd h List.not_mem_nil⟩⟩⟩⟩⟩⟩⟩⟩⟩⟩⟩⟩⟩⟩⟩⟩
theorem lw_p32 : lw_okq (⟨"HalfFriendsModel", "counts", "(I)I"⟩, 31) := ⟨⟨by decide +kernel, by decide +kernel⟩, List.mem_of_getElem? (i := 865) (by decide +kernel), List.mem_of_getElem? (i := 1018) (by decide +kernel), List.mem_of_getElem? (i := 1019) (by decide +kernel)⟩
theorem lw_p33 : lw_okq (⟨"HalfFriendsModel", "textAt", "(I)I"⟩, 31) := ⟨⟨by decide +kernel, by decide +kernel⟩, List.mem_of_getElem? (i := 865) (by decide +kernel), List.mem_of_getElem? (i := 1022) (by decide +kernel), List.mem_of_getElem? (i := 1023) (by decide +kernel)⟩
theorem lw_p34 : lw_okq (⟨"HalfFriendsModel", "worked", "(I)I"⟩, 31) := ⟨⟨by decide +kernel, by decide +kernel⟩, List.mem_of_getElem? (i := 865) (by decide +kernel), List.mem_of_getElem? (i := 1026) (by decide +kernel), List.mem_of_getElem? (i := 1027) (by decide +kernel)⟩
theorem lw_p35 : lw_okq (⟨"HalfFriendsModel", "asks", "(I)I"⟩, 31) := ⟨⟨by decide +kernel, by decide +kernel⟩, List.mem_of_getElem? (i := 865) (by decide +kernel), List.mem_of_getElem? (i := 1036) (by decide +kernel), List.mem_of_getElem? (i := 1037) (by decide +kernel)⟩
theorem lw_p36 : lw_okq (⟨"HalfFriendsModel", "worth", "(I)I"⟩, 31) := ⟨⟨by decide +kernel, by decide +kernel⟩, List.mem_of_getElem? (i := 865) (by decide +kernel), List.mem_of_getElem? (i := 1040) (by decide +kernel), List.mem_of_getElem? (i := 1041) (by decide +kernel)⟩
theorem lw_p37 : lw_okq (⟨"HalfFriendsModel", "becomes", "(II)I"⟩, 31) := ⟨⟨by decide +kernel, by decide +kernel⟩, List.mem_of_getElem? (i := 865) (by decide +kernel), List.mem_of_getElem? (i := 1056) (by decide +kernel), List.mem_of_getElem? (i := 1057) (by decide +kernel)⟩
theorem lw_p38 : lw_okq (⟨"HalfFriendsModel", "areFriends", "(II)I"⟩, 31) := ⟨⟨by decide +kernel, by decide +kernel⟩, List.mem_of_getElem? (i := 865) (by decide +kernel), List.mem_of_getElem? (i := 1071) (by decide +kernel), List.mem_of_getElem? (i := 1072) (by decide +kernel)⟩
theorem lw_p39 : lw_okq (⟨"HalfFriendsModel", "joins", "(III)V"⟩, 31) := ⟨⟨by decide +kernel, by decide +kernel⟩, List.mem_of_getElem? (i := 865) (by decide +kernel), List.mem_of_getElem? (i := 1075) (by decide +kernel), List.mem_of_getElem? (i := 1076) (by decide +kernel)⟩
theorem lw_p40 : lw_okq (⟨"HalfFriendsModel", "drawn", "()I"⟩, 31) := ⟨⟨by decide +kernel, by decide +kernel⟩, List.mem_of_getElem? (i := 865) (by decide +kernel), List.mem_of_getElem? (i := 1091) (by decide +kernel), List.mem_of_getElem? (i := 1092) (by decide +kernel)⟩
theorem lw_p41 : lw_okq (⟨"HalfFriendsModel", "allOff", "()I"⟩, 31) := ⟨⟨by decide +kernel, by decide +kernel⟩, List.mem_of_getElem? (i := 865) (by decide +kernel), List.mem_of_getElem? (i := 1104) (by decide +kernel), List.mem_of_getElem? (i := 1105) (by decide +kernel)⟩
theorem lw_p42 : lw_okq (⟨"HalfFriendsModel", "disorder", "(I)I"⟩, 31) := ⟨⟨by decide +kernel, by decide +kernel⟩, List.mem_of_getElem? (i := 865) (by decide +kernel), List.mem_of_getElem? (i := 1108) (by decide +kernel), List.mem_of_getElem? (i := 1109) (by decide +kernel)⟩
theorem lw_p43 : lw_okq (⟨"HalfFriendsModel", "oddOnes", "()I"⟩, 31) := ⟨⟨by decide +kernel, by decide +kernel⟩, List.mem_of_getElem? (i := 865) (by decide +kernel), List.mem_of_getElem? (i := 1112) (by decide +kernel), List.mem_of_getElem? (i := 1113) (by decide +kernel)⟩
theorem lw_p44 : lw_okq (⟨"HalfFriendsModel", "isWay", "(I)Z"⟩, 31) := ⟨⟨by decide +kernel, by decide +kernel⟩, List.mem_of_getElem? (i := 865) (by decide +kernel), List.mem_of_getElem? (i := 1120) (by decide +kernel), List.mem_of_getElem? (i := 1121) (by decide +kernel)⟩
theorem lw_p45 : lw_okq (⟨"HalfFriendsModel", "fixedOnes", "()I"⟩, 31) := ⟨⟨by decide +kernel, by decide +kernel⟩, List.mem_of_getElem? (i := 865) (by decide +kernel), List.mem_of_getElem? (i := 1124) (by decide +kernel), List.mem_of_getElem? (i := 1125) (by decide +kernel)⟩
theorem lw_p46 : lw_okq (⟨"HalfFriendsModel", "cost", "(II)I"⟩, 31) := ⟨⟨by decide +kernel, by decide +kernel⟩, List.mem_of_getElem? (i := 865) (by decide +kernel), List.mem_of_getElem? (i := 1132) (by decide +kernel), List.mem_of_getElem? (i := 1133) (by decide +kernel)⟩
theorem lw_p47 : lw_okq (⟨"HalfFriendsModel", "price", "(I)I"⟩, 31) := ⟨⟨by decide +kernel, by decide +kernel⟩, List.mem_of_getElem? (i := 865) (by decide +kernel), List.mem_of_getElem? (i := 1136) (by decide +kernel), List.mem_of_getElem? (i := 1137) (by decide +kernel)⟩
def lw_privs_3 : List (MethodName × Nat) := [(⟨"HalfFriendsModel", "counts", "(I)I"⟩, 31), (⟨"HalfFriendsModel", "textAt", "(I)I"⟩, 31), (⟨"HalfFriendsModel", "worked", "(I)I"⟩, 31), (⟨"HalfFriendsModel", "asks", "(I)I"⟩, 31), (⟨"HalfFriendsModel", "worth", "(I)I"⟩, 31), (⟨"HalfFriendsModel", "becomes", "(II)I"⟩, 31), (⟨"HalfFriendsModel", "areFriends", "(II)I"⟩, 31), (⟨"HalfFriendsModel", "joins", "(III)V"⟩, 31), (⟨"HalfFriendsModel", "drawn", "()I"⟩, 31), (⟨"HalfFriendsModel", "allOff", "()I"⟩, 31), (⟨"HalfFriendsModel", "disorder", "(I)I"⟩, 31), (⟨"HalfFriendsModel", "oddOnes", "()I"⟩, 31), (⟨"HalfFriendsModel", "isWay", "(I)Z"⟩, 31), (⟨"HalfFriendsModel", "fixedOnes", "()I"⟩, 31), (⟨"HalfFriendsModel", "cost", "(II)I"⟩, 31), (⟨"HalfFriendsModel", "price", "(I)I"⟩, 31)]
theorem lw_r3 : ∀ q ∈ lw_privs_3, lw_okq q := List.forall_mem_cons.mpr ⟨lw_p32, List.forall_mem_cons.mpr ⟨lw_p33, List.forall_mem_cons.mpr ⟨lw_p34, List.forall_mem_cons.mpr ⟨lw_p35, List.forall_mem_cons.mpr ⟨lw_p36, List.forall_mem_cons.mpr ⟨lw_p37, List.forall_mem_cons.mpr ⟨lw_p38, List.forall_mem_cons.mpr ⟨lw_p39, List.forall_mem_cons.mpr ⟨lw_p40, List.forall_mem_cons.mpr ⟨lw_p41, List.forall_mem_cons.mpr ⟨lw_p42, List.forall_mem_cons.mpr ⟨lw_p43, List.forall_mem_cons.mpr ⟨lw_p44, List.forall_mem_cons.mpr ⟨lw_p45, List.forall_mem_cons.mpr ⟨lw_p46, List.forall_mem_cons.mpr ⟨lw_p47, fun _ h => absurd h List.not_mem_nil⟩⟩⟩⟩⟩⟩⟩⟩⟩⟩⟩⟩⟩⟩⟩⟩
theorem lw_p48 : lw_okq (⟨"HalfFriendsModel", "goesOn", "()V"⟩, 31) := ⟨⟨by decide +kernel, by decide +kernel⟩, List.mem_of_getElem? (i := 865) (by decide +kernel), List.mem_of_getElem? (i := 1162) (by decide +kernel), List.mem_of_getElem? (i := 1163) (by decide +kernel)⟩
theorem lw_p49 : lw_okq (⟨"HalfFriendsModel", "pays", "(II)V"⟩, 31) := ⟨⟨by decide +kernel, by decide +kernel⟩, List.mem_of_getElem? (i := 865) (by decide +kernel), List.mem_of_getElem? (i := 1166) (by decide +kernel), List.mem_of_getElem? (i := 1167) (by decide +kernel)⟩
theorem lw_p50 : lw_okq (⟨"HalfFriendsModel", "lookedAt", "()I"⟩, 31) := ⟨⟨by decide +kernel, by decide +kernel⟩, List.mem_of_getElem? (i := 865) (by decide +kernel), List.mem_of_getElem? (i := 1170) (by decide +kernel), List.mem_of_getElem? (i := 1171) (by decide +kernel)⟩
theorem lw_p51 : lw_okq (⟨"HalfFriendsModel", "worst", "()I"⟩, 31) := ⟨⟨by decide +kernel, by decide +kernel⟩, List.mem_of_getElem? (i := 865) (by decide +kernel), List.mem_of_getElem? (i := 1174) (by decide +kernel), List.mem_of_getElem? (i := 1175) (by decide +kernel)⟩
theorem lw_p52 : lw_okq (⟨"HalfFriendsModel", "around", "(II)I"⟩, 31) := ⟨⟨by decide +kernel, by decide +kernel⟩, List.mem_of_getElem? (i := 865) (by decide +kernel), List.mem_of_getElem? (i := 1178) (by decide +kernel), List.mem_of_getElem? (i := 1179) (by decide +kernel)⟩
theorem lw_p53 : lw_okq (⟨"HalfFriendsModel", "changes", "(I)V"⟩, 31) := ⟨⟨by decide +kernel, by decide +kernel⟩, List.mem_of_getElem? (i := 865) (by decide +kernel), List.mem_of_getElem? (i := 1182) (by decide +kernel), List.mem_of_getElem? (i := 1183) (by decide +kernel)⟩
theorem lw_p54 : lw_okq (⟨"HalfFriendsModel", "laysBy", "()V"⟩, 31) := ⟨⟨by decide +kernel, by decide +kernel⟩, List.mem_of_getElem? (i := 865) (by decide +kernel), List.mem_of_getElem? (i := 1190) (by decide +kernel), List.mem_of_getElem? (i := 1191) (by decide +kernel)⟩
theorem lw_p55 : lw_okq (⟨"HalfFriendsModel", "goesOnMany", "(I)V"⟩, 31) := ⟨⟨by decide +kernel, by decide +kernel⟩, List.mem_of_getElem? (i := 865) (by decide +kernel), List.mem_of_getElem? (i := 1194) (by decide +kernel), List.mem_of_getElem? (i := 1195) (by decide +kernel)⟩
theorem lw_p56 : lw_okq (⟨"HalfFriendsModel", "laysBack", "()V"⟩, 31) := ⟨⟨by decide +kernel, by decide +kernel⟩, List.mem_of_getElem? (i := 865) (by decide +kernel), List.mem_of_getElem? (i := 1198) (by decide +kernel), List.mem_of_getElem? (i := 1199) (by decide +kernel)⟩
theorem lw_p57 : lw_okq (⟨"HalfFriendsModel", "parse", "()I"⟩, 31) := ⟨⟨by decide +kernel, by decide +kernel⟩, List.mem_of_getElem? (i := 865) (by decide +kernel), List.mem_of_getElem? (i := 1231) (by decide +kernel), List.mem_of_getElem? (i := 1232) (by decide +kernel)⟩
theorem lw_p58 : lw_okq (⟨"HalfFriendsModel", "nextToken", "()V"⟩, 31) := ⟨⟨by decide +kernel, by decide +kernel⟩, List.mem_of_getElem? (i := 865) (by decide +kernel), List.mem_of_getElem? (i := 1235) (by decide +kernel), List.mem_of_getElem? (i := 1236) (by decide +kernel)⟩
theorem lw_p59 : lw_okq (⟨"HalfFriendsModel", "isLetter", "(I)Z"⟩, 31) := ⟨⟨by decide +kernel, by decide +kernel⟩, List.mem_of_getElem? (i := 865) (by decide +kernel), List.mem_of_getElem? (i := 1239) (by decide +kernel), List.mem_of_getElem? (i := 1240) (by decide +kernel)⟩
theorem lw_p60 : lw_okq (⟨"HalfFriendsModel", "isDigit", "(I)Z"⟩, 31) := ⟨⟨by decide +kernel, by decide +kernel⟩, List.mem_of_getElem? (i := 865) (by decide +kernel), List.mem_of_getElem? (i := 1245) (by decide +kernel), List.mem_of_getElem? (i := 1246) (by decide +kernel)⟩
theorem lw_p61 : lw_okq (⟨"HalfFriendsModel", "key", "()I"⟩, 31) := ⟨⟨by decide +kernel, by decide +kernel⟩, List.mem_of_getElem? (i := 865) (by decide +kernel), List.mem_of_getElem? (i := 1251) (by decide +kernel), List.mem_of_getElem? (i := 1252) (by decide +kernel)⟩
theorem lw_p62 : lw_okq (⟨"HalfFriendsModel", "isWordAt", "(IIII)Z"⟩, 31) := ⟨⟨by decide +kernel, by decide +kernel⟩, List.mem_of_getElem? (i := 865) (by decide +kernel), List.mem_of_getElem? (i := 1255) (by decide +kernel), List.mem_of_getElem? (i := 1256) (by decide +kernel)⟩
theorem lw_p63 : lw_okq (⟨"HalfFriendsModel", "either", "(I)Z"⟩, 31) := ⟨⟨by decide +kernel, by decide +kernel⟩, List.mem_of_getElem? (i := 865) (by decide +kernel), List.mem_of_getElem? (i := 1259) (by decide +kernel), List.mem_of_getElem? (i := 1260) (by decide +kernel)⟩
def lw_privs_4 : List (MethodName × Nat) := [(⟨"HalfFriendsModel", "goesOn", "()V"⟩, 31), (⟨"HalfFriendsModel", "pays", "(II)V"⟩, 31), (⟨"HalfFriendsModel", "lookedAt", "()I"⟩, 31), (⟨"HalfFriendsModel", "worst", "()I"⟩, 31), (⟨"HalfFriendsModel", "around", "(II)I"⟩, 31), (⟨"HalfFriendsModel", "changes", "(I)V"⟩, 31), (⟨"HalfFriendsModel", "laysBy", "()V"⟩, 31), (⟨"HalfFriendsModel", "goesOnMany", "(I)V"⟩, 31), (⟨"HalfFriendsModel", "laysBack", "()V"⟩, 31), (⟨"HalfFriendsModel", "parse", "()I"⟩, 31), (⟨"HalfFriendsModel", "nextToken", "()V"⟩, 31), (⟨"HalfFriendsModel", "isLetter", "(I)Z"⟩, 31), (⟨"HalfFriendsModel", "isDigit", "(I)Z"⟩, 31), (⟨"HalfFriendsModel", "key", "()I"⟩, 31), (⟨"HalfFriendsModel", "isWordAt", "(IIII)Z"⟩, 31), (⟨"HalfFriendsModel", "either", "(I)Z"⟩, 31)]
theorem lw_r4 : ∀ q ∈ lw_privs_4, lw_okq q := List.forall_mem_cons.mpr ⟨lw_p48, List.forall_mem_cons.mpr ⟨lw_p49, List.forall_mem_cons.mpr ⟨lw_p50, List.forall_mem_cons.mpr ⟨lw_p51, List.forall_mem_cons.mpr ⟨lw_p52, List.forall_mem_cons.mpr ⟨lw_p53, List.forall_mem_cons.mpr ⟨lw_p54, List.forall_mem_cons.mpr ⟨lw_p55, List.forall_mem_cons.mpr ⟨lw_p56, List.forall_mem_cons.mpr ⟨lw_p57, List.forall_mem_cons.mpr ⟨lw_p58, List.forall_mem_cons.mpr ⟨lw_p59, List.forall_mem_cons.mpr ⟨lw_p60, List.forall_mem_cons.mpr ⟨lw_p61, List.forall_mem_cons.mpr ⟨lw_p62, List.forall_mem_cons.mpr ⟨lw_p63, fun _ h => absurd h List.not_mem_nil⟩⟩⟩⟩⟩⟩⟩⟩⟩⟩⟩⟩⟩⟩⟩⟩
theorem lw_p64 : lw_okq (⟨"HalfFriendsModel", "both", "(I)Z"⟩, 31) := ⟨⟨by decide +kernel, by decide +kernel⟩, List.mem_of_getElem? (i := 865) (by decide +kernel), List.mem_of_getElem? (i := 1263) (by decide +kernel), List.mem_of_getElem? (i := 1264) (by decide +kernel)⟩
theorem lw_p65 : lw_okq (⟨"HalfFriendsModel", "test", "(I)Z"⟩, 31) := ⟨⟨by decide +kernel, by decide +kernel⟩, List.mem_of_getElem? (i := 865) (by decide +kernel), List.mem_of_getElem? (i := 1267) (by decide +kernel), List.mem_of_getElem? (i := 1268) (by decide +kernel)⟩
theorem lw_p66 : lw_okq (⟨"HalfFriendsModel", "sum", "(I)Z"⟩, 31) := ⟨⟨by decide +kernel, by decide +kernel⟩, List.mem_of_getElem? (i := 865) (by decide +kernel), List.mem_of_getElem? (i := 1271) (by decide +kernel), List.mem_of_getElem? (i := 1272) (by decide +kernel)⟩
theorem lw_p67 : lw_okq (⟨"HalfFriendsModel", "term", "(I)Z"⟩, 31) := ⟨⟨by decide +kernel, by decide +kernel⟩, List.mem_of_getElem? (i := 865) (by decide +kernel), List.mem_of_getElem? (i := 1275) (by decide +kernel), List.mem_of_getElem? (i := 1276) (by decide +kernel)⟩
theorem lw_p68 : lw_okq (⟨"HalfFriendsModel", "part0", "(I)Z"⟩, 31) := ⟨⟨by decide +kernel, by decide +kernel⟩, List.mem_of_getElem? (i := 865) (by decide +kernel), List.mem_of_getElem? (i := 1279) (by decide +kernel), List.mem_of_getElem? (i := 1280) (by decide +kernel)⟩
theorem lw_p69 : lw_okq (⟨"HalfFriendsModel", "step", "(II)V"⟩, 31) := ⟨⟨by decide +kernel, by decide +kernel⟩, List.mem_of_getElem? (i := 865) (by decide +kernel), List.mem_of_getElem? (i := 1283) (by decide +kernel), List.mem_of_getElem? (i := 1284) (by decide +kernel)⟩
theorem lw_p70 : lw_okq (⟨"HalfFriendsModel", "isSign", "(I)Z"⟩, 31) := ⟨⟨by decide +kernel, by decide +kernel⟩, List.mem_of_getElem? (i := 865) (by decide +kernel), List.mem_of_getElem? (i := 1290) (by decide +kernel), List.mem_of_getElem? (i := 1291) (by decide +kernel)⟩
theorem lw_p71 : lw_okq (⟨"HalfFriendsModel", "isText", "(I)Z"⟩, 31) := ⟨⟨by decide +kernel, by decide +kernel⟩, List.mem_of_getElem? (i := 865) (by decide +kernel), List.mem_of_getElem? (i := 1298) (by decide +kernel), List.mem_of_getElem? (i := 1299) (by decide +kernel)⟩
theorem lw_p72 : lw_okq (⟨"HalfFriendsModel", "setAside", "([I[I)V"⟩, 31) := ⟨⟨by decide +kernel, by decide +kernel⟩, List.mem_of_getElem? (i := 865) (by decide +kernel), List.mem_of_getElem? (i := 1371) (by decide +kernel), List.mem_of_getElem? (i := 1372) (by decide +kernel)⟩
def lw_privs_5 : List (MethodName × Nat) := [(⟨"HalfFriendsModel", "both", "(I)Z"⟩, 31), (⟨"HalfFriendsModel", "test", "(I)Z"⟩, 31), (⟨"HalfFriendsModel", "sum", "(I)Z"⟩, 31), (⟨"HalfFriendsModel", "term", "(I)Z"⟩, 31), (⟨"HalfFriendsModel", "part0", "(I)Z"⟩, 31), (⟨"HalfFriendsModel", "step", "(II)V"⟩, 31), (⟨"HalfFriendsModel", "isSign", "(I)Z"⟩, 31), (⟨"HalfFriendsModel", "isText", "(I)Z"⟩, 31), (⟨"HalfFriendsModel", "setAside", "([I[I)V"⟩, 31)]
theorem lw_r5 : ∀ q ∈ lw_privs_5, lw_okq q := List.forall_mem_cons.mpr ⟨lw_p64, List.forall_mem_cons.mpr ⟨lw_p65, List.forall_mem_cons.mpr ⟨lw_p66, List.forall_mem_cons.mpr ⟨lw_p67, List.forall_mem_cons.mpr ⟨lw_p68, List.forall_mem_cons.mpr ⟨lw_p69, List.forall_mem_cons.mpr ⟨lw_p70, List.forall_mem_cons.mpr ⟨lw_p71, List.forall_mem_cons.mpr ⟨lw_p72, fun _ h => absurd h List.not_mem_nil⟩⟩⟩⟩⟩⟩⟩⟩⟩
def lw_privs : List (MethodName × Nat) := lw_privs_1 ++ (lw_privs_2 ++ (lw_privs_3 ++ (lw_privs_4 ++ (lw_privs_5))))
def lw_tbl : List Cond := k2_sels lw_privs ++ tables_1
theorem lw_privs_ok : ∀ q ∈ lw_privs, lw_okq q := by
  show ∀ q ∈ lw_privs_1 ++ (lw_privs_2 ++ (lw_privs_3 ++ (lw_privs_4 ++ (lw_privs_5)))), lw_okq q
  exact List.forall_mem_append.mpr ⟨lw_r1, List.forall_mem_append.mpr ⟨lw_r2, List.forall_mem_append.mpr ⟨lw_r3, List.forall_mem_append.mpr ⟨lw_r4, lw_r5⟩⟩⟩⟩
-- ===== end of PART A; then your names; then what follows =====
end
section
def RX0 : String := "HalfFriends$Book"
def TX0 : u_T := fun k => match k with
  | 0 => ("HalfFriends$Book", "keys", "[I", true)
  | 1 => ("HalfFriends$Book", "leaves", "[I", true)
  | 2 => ("HalfFriends$Book", "lengths", "[I", true)
  | 3 => ("HalfFriends$Book", "steps", "[[I", true)
  | _ => ("HalfFriends$Book", "stack", "[I", true)
def tyX0 : Nat → FieldType := fun k => match k with
  | 0 => .array .int
  | 1 => .array .int
  | 2 => .array .int
  | 3 => .array (.array .int)
  | _ => .array .int
theorem nmX0 : ∀ a, a < 5 → ∀ b, b < 5 → a ≠ b → (TX0 a).2.1 ≠ (TX0 b).2.1 := by decide +kernel
theorem tyX0_ok : ∀ k, k < 5 → parseFieldDescriptor (TX0 k).2.2.1 = some (tyX0 k) := by decide +kernel
abbrev cX0_init : ByteArray := prog_2_method_1_code
def yX0_init : MethodName := ⟨RX0, "<init>", "()V"⟩
abbrev cX0_write : ByteArray := prog_2_method_2_code
def yX0_write : MethodName := ⟨RX0, "write", "(ILHalfFriends$Reader;)V"⟩
abbrev cX0_counts : ByteArray := prog_2_method_3_code
def yX0_counts : MethodName := ⟨RX0, "counts", "(II)I"⟩
abbrev cX0_gives : ByteArray := prog_2_method_4_code
def yX0_gives : MethodName := ⟨RX0, "gives", "(IIII)I"⟩
abbrev cX0_leaf : ByteArray := prog_2_method_5_code
def yX0_leaf : MethodName := ⟨RX0, "leaf", "(IIII)I"⟩
abbrev cX0_joined : ByteArray := prog_2_method_6_code
def yX0_joined : MethodName := ⟨RX0, "joined", "(III)I"⟩
def RX1 : String := "HalfFriends$Kinds"
def TX1 : u_T := fun k => match k with
  | _ => ("", "", "", false)
def tyX1 : Nat → FieldType := fun k => match k with
  | _ => .int
theorem nmX1 : ∀ a, a < 0 → ∀ b, b < 0 → a ≠ b → (TX1 a).2.1 ≠ (TX1 b).2.1 := by decide +kernel
theorem tyX1_ok : ∀ k, k < 0 → parseFieldDescriptor (TX1 k).2.2.1 = some (tyX1 k) := by decide +kernel
abbrev cX1_isOf : ByteArray := prog_3_method_2_code
def yX1_isOf : MethodName := ⟨RX1, "isOf", "(II)Z"⟩
abbrev cX1_owes : ByteArray := prog_3_method_3_code
def yX1_owes : MethodName := ⟨RX1, "owes", "(II)I"⟩
abbrev cX1_asks : ByteArray := prog_3_method_4_code
def yX1_asks : MethodName := ⟨RX1, "asks", "(II)I"⟩
abbrev cX1_worth : ByteArray := prog_3_method_5_code
def yX1_worth : MethodName := ⟨RX1, "worth", "(II)I"⟩
def RX2 : String := "HalfFriends$Order"
def TX2 : u_T := fun k => match k with
  | 0 => ("HalfFriends$Order", "unruly", "[I", true)
  | _ => ("HalfFriends$Order", "all", "I", false)
def tyX2 : Nat → FieldType := fun k => match k with
  | 0 => .array .int
  | _ => .int
theorem nmX2 : ∀ a, a < 2 → ∀ b, b < 2 → a ≠ b → (TX2 a).2.1 ≠ (TX2 b).2.1 := by decide +kernel
theorem tyX2_ok : ∀ k, k < 2 → parseFieldDescriptor (TX2 k).2.2.1 = some (tyX2 k) := by decide +kernel
abbrev cX2_init : ByteArray := prog_4_method_1_code
def yX2_init : MethodName := ⟨RX2, "<init>", "()V"⟩
abbrev cX2_scan : ByteArray := prog_4_method_2_code
def yX2_scan : MethodName := ⟨RX2, "scan", "(LHalfFriends$Town;)V"⟩
abbrev cX2_howMany : ByteArray := prog_4_method_3_code
def yX2_howMany : MethodName := ⟨RX2, "howMany", "()I"⟩
abbrev cX2_chosen : ByteArray := prog_4_method_4_code
def yX2_chosen : MethodName := ⟨RX2, "chosen", "(LHalfFriends$Town;I)I"⟩
abbrev cX2_cost : ByteArray := prog_4_method_5_code
def yX2_cost : MethodName := ⟨RX2, "cost", "(LHalfFriends$Town;II)I"⟩
abbrev cX2_priceOf : ByteArray := prog_4_method_6_code
def yX2_priceOf : MethodName := ⟨RX2, "priceOf", "(LHalfFriends$Town;I)I"⟩
abbrev cX2_free : ByteArray := prog_4_method_7_code
def yX2_free : MethodName := ⟨RX2, "free", "()I"⟩
abbrev cX2_nearest : ByteArray := prog_4_method_8_code
def yX2_nearest : MethodName := ⟨RX2, "nearest", "(I)I"⟩
abbrev cX2_howManyTurned : ByteArray := prog_4_method_9_code
def yX2_howManyTurned : MethodName := ⟨RX2, "howManyTurned", "(LHalfFriends$Town;II)I"⟩
def RX3 : String := "HalfFriends$Reader"
def TX3 : u_T := fun k => match k with
  | 0 => ("HalfFriends$Reader", "tape", "[I", true)
  | 1 => ("HalfFriends$Reader", "steps", "[I", true)
  | 2 => ("HalfFriends$Reader", "length", "I", false)
  | 3 => ("HalfFriends$Reader", "start", "I", false)
  | 4 => ("HalfFriends$Reader", "end", "I", false)
  | 5 => ("HalfFriends$Reader", "glued", "Z", false)
  | 6 => ("HalfFriends$Reader", "key", "I", false)
  | 7 => ("HalfFriends$Reader", "leaves", "I", false)
  | _ => ("HalfFriends$Reader", "stepCount", "I", false)
def tyX3 : Nat → FieldType := fun k => match k with
  | 0 => .array .int
  | 1 => .array .int
  | 2 => .int
  | 3 => .int
  | 4 => .int
  | 5 => .boolean
  | 6 => .int
  | 7 => .int
  | _ => .int
theorem nmX3 : ∀ a, a < 9 → ∀ b, b < 9 → a ≠ b → (TX3 a).2.1 ≠ (TX3 b).2.1 := by decide +kernel
theorem tyX3_ok : ∀ k, k < 9 → parseFieldDescriptor (TX3 k).2.2.1 = some (tyX3 k) := by decide +kernel
abbrev cX3_init : ByteArray := prog_5_method_1_code
def yX3_init : MethodName := ⟨RX3, "<init>", "()V"⟩
abbrev cX3_append : ByteArray := prog_5_method_2_code
def yX3_append : MethodName := ⟨RX3, "append", "(I)V"⟩
abbrev cX3_read : ByteArray := prog_5_method_3_code
def yX3_read : MethodName := ⟨RX3, "read", "()Z"⟩
abbrev cX3_next : ByteArray := prog_5_method_4_code
def yX3_next : MethodName := ⟨RX3, "next", "()V"⟩
abbrev cX3_sortAt : ByteArray := prog_5_method_5_code
def yX3_sortAt : MethodName := ⟨RX3, "sortAt", "(I)I"⟩
abbrev cX3_keyHere : ByteArray := prog_5_method_6_code
def yX3_keyHere : MethodName := ⟨RX3, "keyHere", "()I"⟩
abbrev cX3_isHere : ByteArray := prog_5_method_7_code
def yX3_isHere : MethodName := ⟨RX3, "isHere", "(Ljava/lang/String;)Z"⟩
abbrev cX3_joinsHere : ByteArray := prog_5_method_8_code
def yX3_joinsHere : MethodName := ⟨RX3, "joinsHere", "(I)Z"⟩
abbrev cX3_signsOf : ByteArray := prog_5_method_9_code
def yX3_signsOf : MethodName := ⟨RX3, "signsOf", "(I)Ljava/lang/String;"⟩
abbrev cX3_level : ByteArray := prog_5_method_10_code
def yX3_level : MethodName := ⟨RX3, "level", "(III)Z"⟩
abbrev cX3_piece : ByteArray := prog_5_method_11_code
def yX3_piece : MethodName := ⟨RX3, "piece", "(II)Z"⟩
abbrev cX3_negated : ByteArray := prog_5_method_12_code
def yX3_negated : MethodName := ⟨RX3, "negated", "(II)Z"⟩
abbrev cX3_enclosed : ByteArray := prog_5_method_13_code
def yX3_enclosed : MethodName := ⟨RX3, "enclosed", "(II)Z"⟩
abbrev cX3_number : ByteArray := prog_5_method_14_code
def yX3_number : MethodName := ⟨RX3, "number", "()Z"⟩
abbrev cX3_name : ByteArray := prog_5_method_15_code
def yX3_name : MethodName := ⟨RX3, "name", "()Z"⟩
abbrev cX3_put : ByteArray := prog_5_method_16_code
def yX3_put : MethodName := ⟨RX3, "put", "(I)V"⟩
def RX4 : String := "HalfFriends$Row"
def TX4 : u_T := fun k => match k with
  | 0 => ("HalfFriends$Row", "places", "[I", true)
  | 1 => ("HalfFriends$Row", "sort", "I", false)
  | _ => ("HalfFriends$Row", "size", "I", false)
def tyX4 : Nat → FieldType := fun k => match k with
  | 0 => .array .int
  | 1 => .int
  | _ => .int
theorem nmX4 : ∀ a, a < 3 → ∀ b, b < 3 → a ≠ b → (TX4 a).2.1 ≠ (TX4 b).2.1 := by decide +kernel
theorem tyX4_ok : ∀ k, k < 3 → parseFieldDescriptor (TX4 k).2.2.1 = some (tyX4 k) := by decide +kernel
abbrev cX4_init : ByteArray := prog_6_method_1_code
def yX4_init : MethodName := ⟨RX4, "<init>", "()V"⟩
abbrev cX4_begin : ByteArray := prog_6_method_2_code
def yX4_begin : MethodName := ⟨RX4, "begin", "(II)V"⟩
abbrev cX4_become : ByteArray := prog_6_method_3_code
def yX4_become : MethodName := ⟨RX4, "become", "(LHalfFriends$Row;)V"⟩
abbrev cX4_isMissing : ByteArray := prog_6_method_4_code
def yX4_isMissing : MethodName := ⟨RX4, "isMissing", "()Z"⟩
abbrev cX4_hasNo : ByteArray := prog_6_method_5_code
def yX4_hasNo : MethodName := ⟨RX4, "hasNo", "(I)Z"⟩
abbrev cX4_lacks : ByteArray := prog_6_method_6_code
def yX4_lacks : MethodName := ⟨RX4, "lacks", "(II)Z"⟩
abbrev cX4_isNumber : ByteArray := prog_6_method_7_code
def yX4_isNumber : MethodName := ⟨RX4, "isNumber", "(I)Z"⟩
def RX5 : String := "HalfFriends$Slot"
def TX5 : u_T := fun k => match k with
  | 0 => ("HalfFriends$Slot", "row", "LHalfFriends$Row;", true)
  | 1 => ("HalfFriends$Slot", "thing", "I", false)
  | 2 => ("HalfFriends$Slot", "kind", "I", false)
  | 3 => ("HalfFriends$Slot", "price", "I", false)
  | _ => ("HalfFriends$Slot", "number", "I", false)
def tyX5 : Nat → FieldType := fun k => match k with
  | 0 => .object "HalfFriends$Row"
  | 1 => .int
  | 2 => .int
  | 3 => .int
  | _ => .int
theorem nmX5 : ∀ a, a < 5 → ∀ b, b < 5 → a ≠ b → (TX5 a).2.1 ≠ (TX5 b).2.1 := by decide +kernel
theorem tyX5_ok : ∀ k, k < 5 → parseFieldDescriptor (TX5 k).2.2.1 = some (tyX5 k) := by decide +kernel
abbrev cX5_init : ByteArray := prog_7_method_1_code
def yX5_init : MethodName := ⟨RX5, "<init>", "()V"⟩
abbrev cX5_isNot : ByteArray := prog_7_method_2_code
def yX5_isNot : MethodName := ⟨RX5, "isNot", "(I)I"⟩
def RX6 : String := "HalfFriends$Town"
def TX6 : u_T := fun k => match k with
  | 0 => ("HalfFriends$Town", "book", "LHalfFriends$Book;", true)
  | 1 => ("HalfFriends$Town", "kind", "[I", true)
  | 2 => ("HalfFriends$Town", "price", "[I", true)
  | 3 => ("HalfFriends$Town", "purse", "[I", true)
  | 4 => ("HalfFriends$Town", "circle", "[I", true)
  | 5 => ("HalfFriends$Town", "size", "I", false)
  | 6 => ("HalfFriends$Town", "minds", "I", false)
  | 7 => ("HalfFriends$Town", "slack", "I", false)
  | 8 => ("HalfFriends$Town", "mode", "I", false)
  | 9 => ("HalfFriends$Town", "whim", "I", false)
  | 10 => ("HalfFriends$Town", "chest", "I", false)
  | 11 => ("HalfFriends$Town", "changes", "I", false)
  | 12 => ("HalfFriends$Town", "year", "I", false)
  | 13 => ("HalfFriends$Town", "z", "I", false)
  | _ => ("HalfFriends$Town", "texts", "I", false)
def tyX6 : Nat → FieldType := fun k => match k with
  | 0 => .object "HalfFriends$Book"
  | 1 => .array .int
  | 2 => .array .int
  | 3 => .array .int
  | 4 => .array .int
  | 5 => .int
  | 6 => .int
  | 7 => .int
  | 8 => .int
  | 9 => .int
  | 10 => .int
  | 11 => .int
  | 12 => .int
  | 13 => .int
  | _ => .int
theorem nmX6 : ∀ a, a < 15 → ∀ b, b < 15 → a ≠ b → (TX6 a).2.1 ≠ (TX6 b).2.1 := by decide +kernel
theorem tyX6_ok : ∀ k, k < 15 → parseFieldDescriptor (TX6 k).2.2.1 = some (tyX6 k) := by decide +kernel
abbrev cX6_init : ByteArray := prog_8_method_1_code
def yX6_init : MethodName := ⟨RX6, "<init>", "(LHalfFriends$Book;)V"⟩
abbrev cX6_become : ByteArray := prog_8_method_2_code
def yX6_become : MethodName := ⟨RX6, "become", "(LHalfFriends$Town;)V"⟩
abbrev cX6_join : ByteArray := prog_8_method_3_code
def yX6_join : MethodName := ⟨RX6, "join", "(III)V"⟩
abbrev cX6_mindOf : ByteArray := prog_8_method_4_code
def yX6_mindOf : MethodName := ⟨RX6, "mindOf", "(I)I"⟩
abbrev cX6_flip : ByteArray := prog_8_method_5_code
def yX6_flip : MethodName := ⟨RX6, "flip", "(I)V"⟩
abbrev cX6_areFriends : ByteArray := prog_8_method_6_code
def yX6_areFriends : MethodName := ⟨RX6, "areFriends", "(II)Z"⟩
abbrev cX6_offAmong : ByteArray := prog_8_method_7_code
def yX6_offAmong : MethodName := ⟨RX6, "offAmong", "(II)I"⟩
abbrev cX6_off : ByteArray := prog_8_method_8_code
def yX6_off : MethodName := ⟨RX6, "off", "(II)I"⟩
abbrev cX6_offOf : ByteArray := prog_8_method_9_code
def yX6_offOf : MethodName := ⟨RX6, "offOf", "(I)I"⟩
abbrev cX6_offTogether : ByteArray := prog_8_method_10_code
def yX6_offTogether : MethodName := ⟨RX6, "offTogether", "()I"⟩
abbrev cX6_unruly : ByteArray := prog_8_method_11_code
def yX6_unruly : MethodName := ⟨RX6, "unruly", "(I)I"⟩
abbrev cX6_oddOnes : ByteArray := prog_8_method_12_code
def yX6_oddOnes : MethodName := ⟨RX6, "oddOnes", "()I"⟩
abbrev cX6_fixedOnes : ByteArray := prog_8_method_13_code
def yX6_fixedOnes : MethodName := ⟨RX6, "fixedOnes", "()I"⟩
abbrev cX6_owes : ByteArray := prog_8_method_14_code
def yX6_owes : MethodName := ⟨RX6, "owes", "(I)I"⟩
abbrev cX6_asks : ByteArray := prog_8_method_15_code
def yX6_asks : MethodName := ⟨RX6, "asks", "(I)I"⟩
abbrev cX6_draw : ByteArray := prog_8_method_16_code
def yX6_draw : MethodName := ⟨RX6, "draw", "()I"⟩
abbrev cX6_pass : ByteArray := prog_8_method_17_code
def yX6_pass : MethodName := ⟨RX6, "pass", "(I)V"⟩
abbrev cX6_pay : ByteArray := prog_8_method_18_code
def yX6_pay : MethodName := ⟨RX6, "pay", "(II)V"⟩
abbrev cX6_payDues : ByteArray := prog_8_method_19_code
def yX6_payDues : MethodName := ⟨RX6, "payDues", "()V"⟩
abbrev cX6_lookedAt : ByteArray := prog_8_method_20_code
def yX6_lookedAt : MethodName := ⟨RX6, "lookedAt", "()I"⟩
abbrev cX6_worst : ByteArray := prog_8_method_21_code
def yX6_worst : MethodName := ⟨RX6, "worst", "()I"⟩
abbrev cX6_persuade : ByteArray := prog_8_method_22_code
def yX6_persuade : MethodName := ⟨RX6, "persuade", "(I)V"⟩
abbrev cX6_offOfAll : ByteArray := prog_8_method_23_code
def yX6_offOfAll : MethodName := ⟨RX6, "offOfAll", "(II)I"⟩
abbrev cX6_haveWhim : ByteArray := prog_8_method_24_code
def yX6_haveWhim : MethodName := ⟨RX6, "haveWhim", "()V"⟩
def RX7 : String := "HalfFriends"
def TX7 : u_T := fun k => match k with
  | 0 => ("HalfFriends", "book", "LHalfFriends$Book;", true)
  | 1 => ("HalfFriends", "now", "LHalfFriends$Town;", true)
  | 2 => ("HalfFriends", "image", "LHalfFriends$Town;", true)
  | 3 => ("HalfFriends", "thought", "LHalfFriends$Town;", true)
  | 4 => ("HalfFriends", "order", "LHalfFriends$Order;", true)
  | 5 => ("HalfFriends", "reader", "LHalfFriends$Reader;", true)
  | 6 => ("HalfFriends", "sheets", "[LHalfFriends$Row;", true)
  | 7 => ("HalfFriends", "slots", "[LHalfFriends$Slot;", true)
  | 8 => ("HalfFriends", "waiting", "[I", true)
  | 9 => ("HalfFriends", "waits", "I", false)
  | _ => ("HalfFriends", "kept", "Z", false)
def tyX7 : Nat → FieldType := fun k => match k with
  | 0 => .object "HalfFriends$Book"
  | 1 => .object "HalfFriends$Town"
  | 2 => .object "HalfFriends$Town"
  | 3 => .object "HalfFriends$Town"
  | 4 => .object "HalfFriends$Order"
  | 5 => .object "HalfFriends$Reader"
  | 6 => .array (.object "HalfFriends$Row")
  | 7 => .array (.object "HalfFriends$Slot")
  | 8 => .array .int
  | 9 => .int
  | _ => .boolean
theorem nmX7 : ∀ a, a < 11 → ∀ b, b < 11 → a ≠ b → (TX7 a).2.1 ≠ (TX7 b).2.1 := by decide +kernel
theorem tyX7_ok : ∀ k, k < 11 → parseFieldDescriptor (TX7 k).2.2.1 = some (tyX7 k) := by decide +kernel
abbrev cX7_init : ByteArray := prog_1_method_1_code
def yX7_init : MethodName := ⟨RX7, "<init>", "()V"⟩
abbrev cX7_person : ByteArray := prog_1_method_2_code
def yX7_person : MethodName := ⟨RX7, "person", "(III)I"⟩
abbrev cX7_told : ByteArray := prog_1_method_3_code
def yX7_told : MethodName := ⟨RX7, "told", "(II)I"⟩
abbrev cX7_as : ByteArray := prog_1_method_4_code
def yX7_as : MethodName := ⟨RX7, "as", "(II)I"⟩
abbrev cX7_turns : ByteArray := prog_1_method_5_code
def yX7_turns : MethodName := ⟨RX7, "turns", "(II)I"⟩
abbrev cX7_set : ByteArray := prog_1_method_6_code
def yX7_set : MethodName := ⟨RX7, "set", "(III)I"⟩
abbrev cX7_setMind : ByteArray := prog_1_method_7_code
def yX7_setMind : MethodName := ⟨RX7, "setMind", "(II)I"⟩
abbrev cX7_setPrice : ByteArray := prog_1_method_8_code
def yX7_setPrice : MethodName := ⟨RX7, "setPrice", "(II)I"⟩
abbrev cX7_setPurse : ByteArray := prog_1_method_9_code
def yX7_setPurse : MethodName := ⟨RX7, "setPurse", "(II)I"⟩
abbrev cX7_friends : ByteArray := prog_1_method_10_code
def yX7_friends : MethodName := ⟨RX7, "friends", "(III)I"⟩
abbrev cX7_rule : ByteArray := prog_1_method_11_code
def yX7_rule : MethodName := ⟨RX7, "rule", "(II)I"⟩
abbrev cX7_deal : ByteArray := prog_1_method_12_code
def yX7_deal : MethodName := ⟨RX7, "deal", "(I)I"⟩
abbrev cX7_seed : ByteArray := prog_1_method_13_code
def yX7_seed : MethodName := ⟨RX7, "seed", "(I)I"⟩
abbrev cX7_town : ByteArray := prog_1_method_14_code
def yX7_town : MethodName := ⟨RX7, "town", "(I)I"⟩
abbrev cX7_ways : ByteArray := prog_1_method_15_code
def yX7_ways : MethodName := ⟨RX7, "ways", "()I"⟩
abbrev cX7_minds : ByteArray := prog_1_method_16_code
def yX7_minds : MethodName := ⟨RX7, "minds", "(I)I"⟩
abbrev cX7_freedom : ByteArray := prog_1_method_17_code
def yX7_freedom : MethodName := ⟨RX7, "freedom", "()I"⟩
abbrev cX7_together : ByteArray := prog_1_method_18_code
def yX7_together : MethodName := ⟨RX7, "together", "()I"⟩
abbrev cX7_best : ByteArray := prog_1_method_19_code
def yX7_best : MethodName := ⟨RX7, "best", "(II)I"⟩
abbrev cX7_years : ByteArray := prog_1_method_20_code
def yX7_years : MethodName := ⟨RX7, "years", "(I)I"⟩
abbrev cX7_behind : ByteArray := prog_1_method_21_code
def yX7_behind : MethodName := ⟨RX7, "behind", "(II)I"⟩
abbrev cX7_settles : ByteArray := prog_1_method_22_code
def yX7_settles : MethodName := ⟨RX7, "settles", "()I"⟩
abbrev cX7_won : ByteArray := prog_1_method_23_code
def yX7_won : MethodName := ⟨RX7, "won", "(II)I"⟩
abbrev cX7_lied : ByteArray := prog_1_method_24_code
def yX7_lied : MethodName := ⟨RX7, "lied", "(II)I"⟩
abbrev cX7_differences : ByteArray := prog_1_method_25_code
def yX7_differences : MethodName := ⟨RX7, "differences", "(LHalfFriends$Row;I)I"⟩
abbrev cX7_fee : ByteArray := prog_1_method_26_code
def yX7_fee : MethodName := ⟨RX7, "fee", "()I"⟩
abbrev cX7_fine : ByteArray := prog_1_method_27_code
def yX7_fine : MethodName := ⟨RX7, "fine", "(I)I"⟩
abbrev cX7_feed : ByteArray := prog_1_method_28_code
def yX7_feed : MethodName := ⟨RX7, "feed", "(III)I"⟩
abbrev cX7_trim : ByteArray := prog_1_method_29_code
def yX7_trim : MethodName := ⟨RX7, "trim", "(I)I"⟩
abbrev cX7_text : ByteArray := prog_1_method_30_code
def yX7_text : MethodName := ⟨RX7, "text", "()I"⟩
abbrev cX7_textTold : ByteArray := prog_1_method_31_code
def yX7_textTold : MethodName := ⟨RX7, "textTold", "(II)I"⟩
abbrev cX7_why : ByteArray := prog_1_method_32_code
def yX7_why : MethodName := ⟨RX7, "why", "(I)I"⟩
abbrev cX7_sheet : ByteArray := prog_1_method_33_code
def yX7_sheet : MethodName := ⟨RX7, "sheet", "(III)I"⟩
abbrev cX7_mark : ByteArray := prog_1_method_34_code
def yX7_mark : MethodName := ⟨RX7, "mark", "(III)I"⟩
abbrev cX7_pour : ByteArray := prog_1_method_35_code
def yX7_pour : MethodName := ⟨RX7, "pour", "(I)I"⟩
abbrev cX7_reads : ByteArray := prog_1_method_36_code
def yX7_reads : MethodName := ⟨RX7, "reads", "(I)I"⟩
abbrev cX7_copy : ByteArray := prog_1_method_37_code
def yX7_copy : MethodName := ⟨RX7, "copy", "(IIIII)I"⟩
abbrev cX7_lay : ByteArray := prog_1_method_38_code
def yX7_lay : MethodName := ⟨RX7, "lay", "(III)I"⟩
abbrev cX7_ask : ByteArray := prog_1_method_39_code
def yX7_ask : MethodName := ⟨RX7, "ask", "(II)I"⟩
abbrev cX7_item : ByteArray := prog_1_method_40_code
def yX7_item : MethodName := ⟨RX7, "item", "(II)I"⟩
abbrev cX7_rest : ByteArray := prog_1_method_41_code
def yX7_rest : MethodName := ⟨RX7, "rest", "(II)I"⟩
abbrev cX7_tell : ByteArray := prog_1_method_42_code
def yX7_tell : MethodName := ⟨RX7, "tell", "(I)I"⟩
abbrev cX7_check : ByteArray := prog_1_method_43_code
def yX7_check : MethodName := ⟨RX7, "check", "(I)I"⟩
abbrev cX7_keep : ByteArray := prog_1_method_44_code
def yX7_keep : MethodName := ⟨RX7, "keep", "()I"⟩
abbrev cX7_back : ByteArray := prog_1_method_45_code
def yX7_back : MethodName := ⟨RX7, "back", "()I"⟩
abbrev cX7_count : ByteArray := prog_1_method_46_code
def yX7_count : MethodName := ⟨RX7, "count", "(I)I"⟩
abbrev cX7_outside : ByteArray := prog_1_method_47_code
def yX7_outside : MethodName := ⟨RX7, "outside", "(III)Z"⟩
abbrev cX7_isNobody : ByteArray := prog_1_method_48_code
def yX7_isNobody : MethodName := ⟨RX7, "isNobody", "(I)Z"⟩
abbrev cX7_isNoSheet : ByteArray := prog_1_method_49_code
def yX7_isNoSheet : MethodName := ⟨RX7, "isNoSheet", "(I)Z"⟩
abbrev cX7_isNoSlot : ByteArray := prog_1_method_50_code
def yX7_isNoSlot : MethodName := ⟨RX7, "isNoSlot", "(I)Z"⟩
def RX8 : String := "HalfFriendsModel"
def TX8 : u_T := fun k => match k with
  | 0 => ("HalfFriendsModel", "s", "[I", true)
  | 1 => ("HalfFriendsModel", "image", "[I", true)
  | 2 => ("HalfFriendsModel", "aside", "[I", true)
  | 3 => ("HalfFriendsModel", "hasImage", "Z", false)
  | 4 => ("HalfFriendsModel", "tSort", "[I", true)
  | 5 => ("HalfFriendsModel", "tSize", "[I", true)
  | 6 => ("HalfFriendsModel", "tNumber", "[I", true)
  | 7 => ("HalfFriendsModel", "held", "[I", true)
  | 8 => ("HalfFriendsModel", "heldNumber", "[I", true)
  | 9 => ("HalfFriendsModel", "heldWorth", "[I", true)
  | 10 => ("HalfFriendsModel", "heldSize", "[I", true)
  | 11 => ("HalfFriendsModel", "heldRow", "[I", true)
  | 12 => ("HalfFriendsModel", "close", "[I", true)
  | 13 => ("HalfFriendsModel", "tape", "[I", true)
  | 14 => ("HalfFriendsModel", "taped", "I", false)
  | 15 => ("HalfFriendsModel", "begin", "I", false)
  | 16 => ("HalfFriendsModel", "behind", "I", false)
  | 17 => ("HalfFriendsModel", "token", "I", false)
  | 18 => ("HalfFriendsModel", "number", "I", false)
  | 19 => ("HalfFriendsModel", "letter", "I", false)
  | 20 => ("HalfFriendsModel", "deep", "I", false)
  | 21 => ("HalfFriendsModel", "turned", "I", false)
  | 22 => ("HalfFriendsModel", "laid", "I", false)
  | 23 => ("HalfFriendsModel", "laidAt", "I", false)
  | 24 => ("HalfFriendsModel", "said", "I", false)
  | 25 => ("HalfFriendsModel", "named", "[I", true)
  | 26 => ("HalfFriendsModel", "pile", "[I", true)
  | 27 => ("HalfFriendsModel", "carried", "[I", true)
  | 28 => ("HalfFriendsModel", "waits", "[I", true)
  | 29 => ("HalfFriendsModel", "waiting", "I", false)
  | _ => ("HalfFriendsModel", "rowDue", "[I", true)
def tyX8 : Nat → FieldType := fun k => match k with
  | 0 => .array .int
  | 1 => .array .int
  | 2 => .array .int
  | 3 => .boolean
  | 4 => .array .int
  | 5 => .array .int
  | 6 => .array .int
  | 7 => .array .int
  | 8 => .array .int
  | 9 => .array .int
  | 10 => .array .int
  | 11 => .array .int
  | 12 => .array .int
  | 13 => .array .int
  | 14 => .int
  | 15 => .int
  | 16 => .int
  | 17 => .int
  | 18 => .int
  | 19 => .int
  | 20 => .int
  | 21 => .int
  | 22 => .int
  | 23 => .int
  | 24 => .int
  | 25 => .array .int
  | 26 => .array .int
  | 27 => .array .int
  | 28 => .array .int
  | 29 => .int
  | _ => .array .int
theorem nmX8 : ∀ a, a < 31 → ∀ b, b < 31 → a ≠ b → (TX8 a).2.1 ≠ (TX8 b).2.1 := by decide +kernel
theorem tyX8_ok : ∀ k, k < 31 → parseFieldDescriptor (TX8 k).2.2.1 = some (tyX8 k) := by decide +kernel
abbrev cX8_init : ByteArray := prog_10_method_1_code
def yX8_init : MethodName := ⟨RX8, "<init>", "()V"⟩
abbrev cX8_isIn : ByteArray := prog_10_method_2_code
def yX8_isIn : MethodName := ⟨RX8, "isIn", "(JJJ)Z"⟩
abbrev cX8_orNone : ByteArray := prog_10_method_3_code
def yX8_orNone : MethodName := ⟨RX8, "orNone", "(I)I"⟩
abbrev cX8_within : ByteArray := prog_10_method_4_code
def yX8_within : MethodName := ⟨RX8, "within", "(III)I"⟩
abbrev cX8_off : ByteArray := prog_10_method_5_code
def yX8_off : MethodName := ⟨RX8, "off", "(II)I"⟩
abbrev cX8_manyIn : ByteArray := prog_10_method_6_code
def yX8_manyIn : MethodName := ⟨RX8, "manyIn", "(I)I"⟩
abbrev cX8_isFor : ByteArray := prog_10_method_7_code
def yX8_isFor : MethodName := ⟨RX8, "isFor", "(I)I"⟩
abbrev cX8_becomes : ByteArray := prog_10_method_8_code
def yX8_becomes : MethodName := ⟨RX8, "becomes", "(II)I"⟩
abbrev cX8_textAt : ByteArray := prog_10_method_9_code
def yX8_textAt : MethodName := ⟨RX8, "textAt", "(I)I"⟩
abbrev cX8_of : ByteArray := prog_10_method_10_code
def yX8_of : MethodName := ⟨RX8, "of", "(II)I"⟩
abbrev cX8_sets : ByteArray := prog_10_method_11_code
def yX8_sets : MethodName := ⟨RX8, "sets", "(III)V"⟩
abbrev cX8_isOne : ByteArray := prog_10_method_12_code
def yX8_isOne : MethodName := ⟨RX8, "isOne", "(I)Z"⟩
abbrev cX8_isText : ByteArray := prog_10_method_13_code
def yX8_isText : MethodName := ⟨RX8, "isText", "(I)Z"⟩
abbrev cX8_drawn : ByteArray := prog_10_method_14_code
def yX8_drawn : MethodName := ⟨RX8, "drawn", "()I"⟩
abbrev cX8_comes : ByteArray := prog_10_method_15_code
def yX8_comes : MethodName := ⟨RX8, "comes", "(III)V"⟩
abbrev cX8_person : ByteArray := prog_10_method_16_code
def yX8_person : MethodName := ⟨RX8, "person", "(III)I"⟩
abbrev cX8_forNow : ByteArray := prog_10_method_17_code
def yX8_forNow : MethodName := ⟨RX8, "forNow", "()I"⟩
abbrev cX8_offBy : ByteArray := prog_10_method_18_code
def yX8_offBy : MethodName := ⟨RX8, "offBy", "(II)I"⟩
abbrev cX8_offOf : ByteArray := prog_10_method_19_code
def yX8_offOf : MethodName := ⟨RX8, "offOf", "(I)I"⟩
abbrev cX8_dues : ByteArray := prog_10_method_20_code
def yX8_dues : MethodName := ⟨RX8, "dues", "(I)I"⟩
abbrev cX8_asks : ByteArray := prog_10_method_21_code
def yX8_asks : MethodName := ⟨RX8, "asks", "(I)I"⟩
abbrev cX8_worth : ByteArray := prog_10_method_22_code
def yX8_worth : MethodName := ⟨RX8, "worth", "(I)I"⟩
abbrev cX8_told : ByteArray := prog_10_method_23_code
def yX8_told : MethodName := ⟨RX8, "told", "(II)I"⟩
abbrev cX8_isOf : ByteArray := prog_10_method_24_code
def yX8_isOf : MethodName := ⟨RX8, "isOf", "(II)Z"⟩
abbrev cX8_as : ByteArray := prog_10_method_25_code
def yX8_as : MethodName := ⟨RX8, "as", "(II)I"⟩
abbrev cX8_turns : ByteArray := prog_10_method_26_code
def yX8_turns : MethodName := ⟨RX8, "turns", "(II)I"⟩
abbrev cX8_set : ByteArray := prog_10_method_27_code
def yX8_set : MethodName := ⟨RX8, "set", "(III)I"⟩
abbrev cX8_joins : ByteArray := prog_10_method_28_code
def yX8_joins : MethodName := ⟨RX8, "joins", "(III)V"⟩
abbrev cX8_areFriends : ByteArray := prog_10_method_29_code
def yX8_areFriends : MethodName := ⟨RX8, "areFriends", "(II)I"⟩
abbrev cX8_friends : ByteArray := prog_10_method_30_code
def yX8_friends : MethodName := ⟨RX8, "friends", "(III)I"⟩
abbrev cX8_rule : ByteArray := prog_10_method_31_code
def yX8_rule : MethodName := ⟨RX8, "rule", "(II)I"⟩
abbrev cX8_deal : ByteArray := prog_10_method_32_code
def yX8_deal : MethodName := ⟨RX8, "deal", "(I)I"⟩
abbrev cX8_seed : ByteArray := prog_10_method_33_code
def yX8_seed : MethodName := ⟨RX8, "seed", "(I)I"⟩
abbrev cX8_allOff : ByteArray := prog_10_method_34_code
def yX8_allOff : MethodName := ⟨RX8, "allOff", "()I"⟩
abbrev cX8_disorder : ByteArray := prog_10_method_35_code
def yX8_disorder : MethodName := ⟨RX8, "disorder", "(I)I"⟩
abbrev cX8_oddOnes : ByteArray := prog_10_method_36_code
def yX8_oddOnes : MethodName := ⟨RX8, "oddOnes", "()I"⟩
abbrev cX8_town : ByteArray := prog_10_method_37_code
def yX8_town : MethodName := ⟨RX8, "town", "(I)I"⟩
abbrev cX8_fixedOnes : ByteArray := prog_10_method_38_code
def yX8_fixedOnes : MethodName := ⟨RX8, "fixedOnes", "()I"⟩
abbrev cX8_isWay : ByteArray := prog_10_method_39_code
def yX8_isWay : MethodName := ⟨RX8, "isWay", "(I)Z"⟩
abbrev cX8_ways : ByteArray := prog_10_method_40_code
def yX8_ways : MethodName := ⟨RX8, "ways", "()I"⟩
abbrev cX8_price : ByteArray := prog_10_method_41_code
def yX8_price : MethodName := ⟨RX8, "price", "(I)I"⟩
abbrev cX8_cost : ByteArray := prog_10_method_42_code
def yX8_cost : MethodName := ⟨RX8, "cost", "(II)I"⟩
abbrev cX8_minds : ByteArray := prog_10_method_43_code
def yX8_minds : MethodName := ⟨RX8, "minds", "(I)I"⟩
abbrev cX8_freedom : ByteArray := prog_10_method_44_code
def yX8_freedom : MethodName := ⟨RX8, "freedom", "()I"⟩
abbrev cX8_together : ByteArray := prog_10_method_45_code
def yX8_together : MethodName := ⟨RX8, "together", "()I"⟩
abbrev cX8_best : ByteArray := prog_10_method_46_code
def yX8_best : MethodName := ⟨RX8, "best", "(II)I"⟩
abbrev cX8_pays : ByteArray := prog_10_method_47_code
def yX8_pays : MethodName := ⟨RX8, "pays", "(II)V"⟩
abbrev cX8_changes : ByteArray := prog_10_method_48_code
def yX8_changes : MethodName := ⟨RX8, "changes", "(I)V"⟩
abbrev cX8_worst : ByteArray := prog_10_method_49_code
def yX8_worst : MethodName := ⟨RX8, "worst", "()I"⟩
abbrev cX8_around : ByteArray := prog_10_method_50_code
def yX8_around : MethodName := ⟨RX8, "around", "(II)I"⟩
abbrev cX8_lookedAt : ByteArray := prog_10_method_51_code
def yX8_lookedAt : MethodName := ⟨RX8, "lookedAt", "()I"⟩
abbrev cX8_goesOn : ByteArray := prog_10_method_52_code
def yX8_goesOn : MethodName := ⟨RX8, "goesOn", "()V"⟩
abbrev cX8_goesOnMany : ByteArray := prog_10_method_53_code
def yX8_goesOnMany : MethodName := ⟨RX8, "goesOnMany", "(I)V"⟩
abbrev cX8_years : ByteArray := prog_10_method_54_code
def yX8_years : MethodName := ⟨RX8, "years", "(I)I"⟩
abbrev cX8_laysBy : ByteArray := prog_10_method_55_code
def yX8_laysBy : MethodName := ⟨RX8, "laysBy", "()V"⟩
abbrev cX8_laysBack : ByteArray := prog_10_method_56_code
def yX8_laysBack : MethodName := ⟨RX8, "laysBack", "()V"⟩
abbrev cX8_behind : ByteArray := prog_10_method_57_code
def yX8_behind : MethodName := ⟨RX8, "behind", "(II)I"⟩
abbrev cX8_settles : ByteArray := prog_10_method_58_code
def yX8_settles : MethodName := ⟨RX8, "settles", "()I"⟩
abbrev cX8_won : ByteArray := prog_10_method_59_code
def yX8_won : MethodName := ⟨RX8, "won", "(II)I"⟩
abbrev cX8_fee : ByteArray := prog_10_method_60_code
def yX8_fee : MethodName := ⟨RX8, "fee", "()I"⟩
abbrev cX8_fine : ByteArray := prog_10_method_61_code
def yX8_fine : MethodName := ⟨RX8, "fine", "(I)I"⟩
abbrev cX8_feed : ByteArray := prog_10_method_62_code
def yX8_feed : MethodName := ⟨RX8, "feed", "(III)I"⟩
abbrev cX8_trim : ByteArray := prog_10_method_63_code
def yX8_trim : MethodName := ⟨RX8, "trim", "(I)I"⟩
abbrev cX8_isLetter : ByteArray := prog_10_method_64_code
def yX8_isLetter : MethodName := ⟨RX8, "isLetter", "(I)Z"⟩
abbrev cX8_isDigit : ByteArray := prog_10_method_65_code
def yX8_isDigit : MethodName := ⟨RX8, "isDigit", "(I)Z"⟩
abbrev cX8_nextToken : ByteArray := prog_10_method_66_code
def yX8_nextToken : MethodName := ⟨RX8, "nextToken", "()V"⟩
abbrev cX8_isSign : ByteArray := prog_10_method_67_code
def yX8_isSign : MethodName := ⟨RX8, "isSign", "(I)Z"⟩
abbrev cX8_isWordAt : ByteArray := prog_10_method_68_code
def yX8_isWordAt : MethodName := ⟨RX8, "isWordAt", "(IIII)Z"⟩
abbrev cX8_key : ByteArray := prog_10_method_69_code
def yX8_key : MethodName := ⟨RX8, "key", "()I"⟩
abbrev cX8_isName : ByteArray := prog_10_method_70_code
def yX8_isName : MethodName := ⟨RX8, "isName", "(II)Z"⟩
abbrev cX8_step : ByteArray := prog_10_method_71_code
def yX8_step : MethodName := ⟨RX8, "step", "(II)V"⟩
abbrev cX8_either : ByteArray := prog_10_method_72_code
def yX8_either : MethodName := ⟨RX8, "either", "(I)Z"⟩
abbrev cX8_both : ByteArray := prog_10_method_73_code
def yX8_both : MethodName := ⟨RX8, "both", "(I)Z"⟩
abbrev cX8_test : ByteArray := prog_10_method_74_code
def yX8_test : MethodName := ⟨RX8, "test", "(I)Z"⟩
abbrev cX8_sum : ByteArray := prog_10_method_75_code
def yX8_sum : MethodName := ⟨RX8, "sum", "(I)Z"⟩
abbrev cX8_term : ByteArray := prog_10_method_76_code
def yX8_term : MethodName := ⟨RX8, "term", "(I)Z"⟩
abbrev cX8_part0 : ByteArray := prog_10_method_77_code
def yX8_part0 : MethodName := ⟨RX8, "part0", "(I)Z"⟩
abbrev cX8_parse : ByteArray := prog_10_method_78_code
def yX8_parse : MethodName := ⟨RX8, "parse", "()I"⟩
abbrev cX8_text : ByteArray := prog_10_method_79_code
def yX8_text : MethodName := ⟨RX8, "text", "()I"⟩
abbrev cX8_textTold : ByteArray := prog_10_method_80_code
def yX8_textTold : MethodName := ⟨RX8, "textTold", "(II)I"⟩
abbrev cX8_counts : ByteArray := prog_10_method_81_code
def yX8_counts : MethodName := ⟨RX8, "counts", "(I)I"⟩
abbrev cX8_why : ByteArray := prog_10_method_82_code
def yX8_why : MethodName := ⟨RX8, "why", "(I)I"⟩
abbrev cX8_joined : ByteArray := prog_10_method_83_code
def yX8_joined : MethodName := ⟨RX8, "joined", "(III)I"⟩
abbrev cX8_worked : ByteArray := prog_10_method_84_code
def yX8_worked : MethodName := ⟨RX8, "worked", "(I)I"⟩
abbrev cX8_isSheet : ByteArray := prog_10_method_85_code
def yX8_isSheet : MethodName := ⟨RX8, "isSheet", "(I)Z"⟩
abbrev cX8_sheet : ByteArray := prog_10_method_86_code
def yX8_sheet : MethodName := ⟨RX8, "sheet", "(III)I"⟩
abbrev cX8_mark : ByteArray := prog_10_method_87_code
def yX8_mark : MethodName := ⟨RX8, "mark", "(III)I"⟩
abbrev cX8_pour : ByteArray := prog_10_method_88_code
def yX8_pour : MethodName := ⟨RX8, "pour", "(I)I"⟩
abbrev cX8_reads : ByteArray := prog_10_method_89_code
def yX8_reads : MethodName := ⟨RX8, "reads", "(I)I"⟩
abbrev cX8_lied : ByteArray := prog_10_method_90_code
def yX8_lied : MethodName := ⟨RX8, "lied", "(II)I"⟩
abbrev cX8_copy : ByteArray := prog_10_method_91_code
def yX8_copy : MethodName := ⟨RX8, "copy", "(IIIII)I"⟩
abbrev cX8_isSlot : ByteArray := prog_10_method_92_code
def yX8_isSlot : MethodName := ⟨RX8, "isSlot", "(I)Z"⟩
abbrev cX8_lay : ByteArray := prog_10_method_93_code
def yX8_lay : MethodName := ⟨RX8, "lay", "(III)I"⟩
abbrev cX8_ask : ByteArray := prog_10_method_94_code
def yX8_ask : MethodName := ⟨RX8, "ask", "(II)I"⟩
abbrev cX8_item : ByteArray := prog_10_method_95_code
def yX8_item : MethodName := ⟨RX8, "item", "(II)I"⟩
abbrev cX8_rest : ByteArray := prog_10_method_96_code
def yX8_rest : MethodName := ⟨RX8, "rest", "(II)I"⟩
abbrev cX8_tell : ByteArray := prog_10_method_97_code
def yX8_tell : MethodName := ⟨RX8, "tell", "(I)I"⟩
abbrev cX8_setAside : ByteArray := prog_10_method_98_code
def yX8_setAside : MethodName := ⟨RX8, "setAside", "([I[I)V"⟩
abbrev cX8_check : ByteArray := prog_10_method_99_code
def yX8_check : MethodName := ⟨RX8, "check", "(I)I"⟩
abbrev cX8_keep : ByteArray := prog_10_method_100_code
def yX8_keep : MethodName := ⟨RX8, "keep", "()I"⟩
abbrev cX8_back : ByteArray := prog_10_method_101_code
def yX8_back : MethodName := ⟨RX8, "back", "()I"⟩
abbrev cX8_count : ByteArray := prog_10_method_102_code
def yX8_count : MethodName := ⟨RX8, "count", "(I)I"⟩
def RJ11 : String := "java/lang/Character"
def TJ11 : u_T := fun k => match k with
  | _ => ("", "", "", false)
def tyJ11 : Nat → FieldType := fun k => match k with
  | _ => .int
theorem nmJ11 : ∀ a, a < 0 → ∀ b, b < 0 → a ≠ b → (TJ11 a).2.1 ≠ (TJ11 b).2.1 := by decide +kernel
theorem tyJ11_ok : ∀ k, k < 0 → parseFieldDescriptor (TJ11 k).2.2.1 = some (tyJ11 k) := by decide +kernel
abbrev cJ11_isValidCodePoint_9a6ad : ByteArray := prog_11_method_11_code
def yJ11_isValidCodePoint_9a6ad : MethodName := ⟨RJ11, "isValidCodePoint", "(I)Z"⟩
abbrev cJ11_highSurrogate_5068e : ByteArray := prog_11_method_28_code
def yJ11_highSurrogate_5068e : MethodName := ⟨RJ11, "highSurrogate", "(I)C"⟩
abbrev cJ11_lowSurrogate_5068e : ByteArray := prog_11_method_29_code
def yJ11_lowSurrogate_5068e : MethodName := ⟨RJ11, "lowSurrogate", "(I)C"⟩
def RJ6 : String := "java/lang/Integer"
def TJ6 : u_T := fun k => match k with
  | _ => ("", "", "", false)
def tyJ6 : Nat → FieldType := fun k => match k with
  | _ => .int
theorem nmJ6 : ∀ a, a < 0 → ∀ b, b < 0 → a ≠ b → (TJ6 a).2.1 ≠ (TJ6 b).2.1 := by decide +kernel
theorem tyJ6_ok : ∀ k, k < 0 → parseFieldDescriptor (TJ6 k).2.2.1 = some (tyJ6 k) := by decide +kernel
abbrev cJ6_bitCount_0f7a4 : ByteArray := prog_12_method_49_code
def yJ6_bitCount_0f7a4 : MethodName := ⟨RJ6, "bitCount", "(I)I"⟩
def RJ9 : String := "java/lang/Math"
def TJ9 : u_T := fun k => match k with
  | _ => ("", "", "", false)
def tyJ9 : Nat → FieldType := fun k => match k with
  | _ => .int
theorem nmJ9 : ∀ a, a < 0 → ∀ b, b < 0 → a ≠ b → (TJ9 a).2.1 ≠ (TJ9 b).2.1 := by decide +kernel
theorem tyJ9_ok : ∀ k, k < 0 → parseFieldDescriptor (TJ9 k).2.2.1 = some (tyJ9 k) := by decide +kernel
abbrev cJ9_abs_0f7a4 : ByteArray := prog_13_method_59_code
def yJ9_abs_0f7a4 : MethodName := ⟨RJ9, "abs", "(I)I"⟩
abbrev cJ9_max_7cf53 : ByteArray := prog_13_method_65_code
def yJ9_max_7cf53 : MethodName := ⟨RJ9, "max", "(II)I"⟩
abbrev cJ9_min_7cf53 : ByteArray := prog_13_method_69_code
def yJ9_min_7cf53 : MethodName := ⟨RJ9, "min", "(II)I"⟩
def RJ0 : String := "java/lang/String"
def TJ0 : u_T := fun k => match k with
  | _ => ("", "", "", false)
def tyJ0 : Nat → FieldType := fun k => match k with
  | _ => .int
theorem nmJ0 : ∀ a, a < 0 → ∀ b, b < 0 → a ≠ b → (TJ0 a).2.1 ≠ (TJ0 b).2.1 := by decide +kernel
theorem tyJ0_ok : ∀ k, k < 0 → parseFieldDescriptor (TJ0 k).2.2.1 = some (tyJ0 k) := by decide +kernel
abbrev cJ0_length_8abf5 : ByteArray := prog_14_method_54_code
def yJ0_length_8abf5 : MethodName := ⟨RJ0, "length", "()I"⟩
abbrev cJ0_charAt_5068e : ByteArray := prog_14_method_56_code
def yJ0_charAt_5068e : MethodName := ⟨RJ0, "charAt", "(I)C"⟩
abbrev cJ0_indexOf_0f7a4 : ByteArray := prog_14_method_79_code
def yJ0_indexOf_0f7a4 : MethodName := ⟨RJ0, "indexOf", "(I)I"⟩
abbrev cJ0_indexOf_7cf53 : ByteArray := prog_14_method_80_code
def yJ0_indexOf_7cf53 : MethodName := ⟨RJ0, "indexOf", "(II)I"⟩
abbrev cJ0_coder_7d493 : ByteArray := prog_14_method_152_code
def yJ0_coder_7d493 : MethodName := ⟨RJ0, "coder", "()B"⟩
abbrev cJ0_isLatin1_aae02 : ByteArray := prog_14_method_154_code
def yJ0_isLatin1_aae02 : MethodName := ⟨RJ0, "isLatin1", "()Z"⟩
abbrev cJ0_checkIndex_df160 : ByteArray := prog_14_method_155_code
def yJ0_checkIndex_df160 : MethodName := ⟨RJ0, "checkIndex", "(II)V"⟩
abbrev cJ0_checkBoundsBeginEnd_23922 : ByteArray := prog_14_method_158_code
def yJ0_checkBoundsBeginEnd_23922 : MethodName := ⟨RJ0, "checkBoundsBeginEnd", "(III)V"⟩
def RJ1 : String := "java/lang/StringLatin1"
def TJ1 : u_T := fun k => match k with
  | _ => ("", "", "", false)
def tyJ1 : Nat → FieldType := fun k => match k with
  | _ => .int
theorem nmJ1 : ∀ a, a < 0 → ∀ b, b < 0 → a ≠ b → (TJ1 a).2.1 ≠ (TJ1 b).2.1 := by decide +kernel
theorem tyJ1_ok : ∀ k, k < 0 → parseFieldDescriptor (TJ1 k).2.2.1 = some (tyJ1 k) := by decide +kernel
abbrev cJ1_charAt_3b067 : ByteArray := prog_15_method_2_code
def yJ1_charAt_3b067 : MethodName := ⟨RJ1, "charAt", "([BI)C"⟩
abbrev cJ1_canEncode_9a6ad : ByteArray := prog_15_method_4_code
def yJ1_canEncode_9a6ad : MethodName := ⟨RJ1, "canEncode", "(I)Z"⟩
abbrev cJ1_indexOf_4cfef : ByteArray := prog_15_method_22_code
def yJ1_indexOf_4cfef : MethodName := ⟨RJ1, "indexOf", "([BIII)I"⟩
abbrev cJ1_indexOfChar_4cfef : ByteArray := prog_15_method_23_code
def yJ1_indexOfChar_4cfef : MethodName := ⟨RJ1, "indexOfChar", "([BIII)I"⟩
def RJ2 : String := "java/lang/StringUTF16"
def TJ2 : u_T := fun k => match k with
  | _ => ("", "", "", false)
def tyJ2 : Nat → FieldType := fun k => match k with
  | _ => .int
theorem nmJ2 : ∀ a, a < 0 → ∀ b, b < 0 → a ≠ b → (TJ2 a).2.1 ≠ (TJ2 b).2.1 := by decide +kernel
theorem tyJ2_ok : ∀ k, k < 0 → parseFieldDescriptor (TJ2 k).2.2.1 = some (tyJ2 k) := by decide +kernel
abbrev cJ2_getChar_3b067 : ByteArray := prog_16_method_5_code
def yJ2_getChar_3b067 : MethodName := ⟨RJ2, "getChar", "([BI)C"⟩
abbrev cJ2_length_9d52b : ByteArray := prog_16_method_6_code
def yJ2_length_9d52b : MethodName := ⟨RJ2, "length", "([B)I"⟩
abbrev cJ2_indexOf_4cfef : ByteArray := prog_16_method_40_code
def yJ2_indexOf_4cfef : MethodName := ⟨RJ2, "indexOf", "([BIII)I"⟩
abbrev cJ2_indexOfChar_4cfef : ByteArray := prog_16_method_47_code
def yJ2_indexOfChar_4cfef : MethodName := ⟨RJ2, "indexOfChar", "([BIII)I"⟩
abbrev cJ2_indexOfCharUnsafe_4cfef : ByteArray := prog_16_method_48_code
def yJ2_indexOfCharUnsafe_4cfef : MethodName := ⟨RJ2, "indexOfCharUnsafe", "([BIII)I"⟩
abbrev cJ2_indexOfSupplementary_4cfef : ByteArray := prog_16_method_49_code
def yJ2_indexOfSupplementary_4cfef : MethodName := ⟨RJ2, "indexOfSupplementary", "([BIII)I"⟩
abbrev cJ2_charAt_3b067 : ByteArray := prog_16_method_83_code
def yJ2_charAt_3b067 : MethodName := ⟨RJ2, "charAt", "([BI)C"⟩
abbrev cJ2_checkIndex_2214a : ByteArray := prog_16_method_91_code
def yJ2_checkIndex_2214a : MethodName := ⟨RJ2, "checkIndex", "(I[B)V"⟩
abbrev cJ2_checkBoundsBeginEnd_d044e : ByteArray := prog_16_method_93_code
def yJ2_checkBoundsBeginEnd_d044e : MethodName := ⟨RJ2, "checkBoundsBeginEnd", "(II[B)V"⟩
def RJ10 : String := "java/lang/System"
def TJ10 : u_T := fun k => match k with
  | _ => ("", "", "", false)
def tyJ10 : Nat → FieldType := fun k => match k with
  | _ => .int
theorem nmJ10 : ∀ a, a < 0 → ∀ b, b < 0 → a ≠ b → (TJ10 a).2.1 ≠ (TJ10 b).2.1 := by decide +kernel
theorem tyJ10_ok : ∀ k, k < 0 → parseFieldDescriptor (TJ10 k).2.2.1 = some (tyJ10 k) := by decide +kernel
def RJ3 : String := "jdk/internal/util/Preconditions"
def TJ3 : u_T := fun k => match k with
  | _ => ("", "", "", false)
def tyJ3 : Nat → FieldType := fun k => match k with
  | _ => .int
theorem nmJ3 : ∀ a, a < 0 → ∀ b, b < 0 → a ≠ b → (TJ3 a).2.1 ≠ (TJ3 b).2.1 := by decide +kernel
theorem tyJ3_ok : ∀ k, k < 0 → parseFieldDescriptor (TJ3 k).2.2.1 = some (tyJ3 k) := by decide +kernel
abbrev cJ3_checkIndex_8e157 : ByteArray := prog_18_method_11_code
def yJ3_checkIndex_8e157 : MethodName := ⟨RJ3, "checkIndex", "(IILjava/util/function/BiFunction;)I"⟩
abbrev cJ3_checkFromToIndex_8c36e : ByteArray := prog_18_method_12_code
def yJ3_checkFromToIndex_8c36e : MethodName := ⟨RJ3, "checkFromToIndex", "(IIILjava/util/function/BiFunction;)I"⟩
def RL : String := "HalfFriendsLaw"
abbrev cL_law : ByteArray := code
def yL_law : MethodName := ⟨RL, "law", "([I)Z"⟩
abbrev vwCl : List vw_C := [(RX0, TX0, 5), (RX2, TX2, 2), (RX3, TX3, 9), (RX4, TX4, 3), (RX5, TX5, 5), (RX6, TX6, 15), (RX7, TX7, 11), (RX8, TX8, 31)]
end
section
/-! THE MEMORY PICTURE: a system is N cells at the addresses q; cell i holds the row (μ i) in the shape sh i; a judgement G pc locals stack μ stands for W at that point in any heap that holds μ -/
/-- every word that a method of ours may need: what the tables say, and lasts -/
def WL : List Cond := lw_tbl.filter goodWord
abbrev Mem : Type := Nat → Nat → Int32
def mrow (μ : Mem) (i : Nat) (f : Nat → Int32) : Mem := fun j => if j = i then f else μ j
def mset (μ : Mem) (i k : Nat) (x : Int32) : Mem := mrow μ i (upd (μ i) k x)
abbrev SYS : Type := va_G × (Nat → Nat) × (Nat → (Nat → Int32) → va_E) × Nat × List (ClassId × FieldType) × ((Nat → Prop) → State → Heap → Prop) × Launch × (Nat → Nat)
def sD (Y : SYS) : va_G := Y.1
def sq (Y : SYS) : Nat → Nat := Y.2.1
def sSh (Y : SYS) : Nat → (Nat → Int32) → va_E := Y.2.2.1
def sN (Y : SYS) : Nat := Y.2.2.2.1
def sT (Y : SYS) : List (ClassId × FieldType) := Y.2.2.2.2.1
def sX (Y : SYS) : (Nat → Prop) → State → Heap → Prop := Y.2.2.2.2.2.1
def sL (Y : SYS) : Launch := Y.2.2.2.2.2.2.1
def sK (Y : SYS) : Nat → Nat := Y.2.2.2.2.2.2.2
def wld (Y : SYS) (μ : Mem) : va_W := (List.range (sN Y)).map (fun i => (sq Y i, sSh Y i (μ i)))
theorem wld_get {Y : SYS} {μ : Mem} {i : Nat} (h : i < sN Y) : (wld Y μ)[i]? = some (sq Y i, sSh Y i (μ i)) := by
  unfold wld
  rw [List.getElem?_map, List.getElem?_range h]
  rfl
theorem wld_set {Y : SYS} {μ : Mem} {i : Nat} {f : Nat → Int32} (h : i < sN Y) : (wld Y μ).set i (sq Y i, sSh Y i f) = wld Y (mrow μ i f) := by
  apply List.ext_getElem?
  intro j
  by_cases hj : j < sN Y
  · rw [wld_get hj]
    by_cases e : i = j
    · subst e
      rw [List.getElem?_set_self (by unfold wld; simpa using h)]
      simp [mrow]
    · rw [List.getElem?_set_ne e, wld_get hj]
      simp [mrow, Ne.symm e]
  · rw [List.getElem?_eq_none (by unfold wld; simp; omega), List.getElem?_eq_none (by unfold wld; simp; omega)]
def FA (Y : SYS) (sz : Nat) : Nat → Prop := fun a => (∃ i, i < sN Y ∧ a = sq Y i) ∨ sz ≤ a
def QI (Y : SYS) (A : Nat → Prop) : Prop := (∀ i j, i < sN Y → j < sN Y → sq Y i = sq Y j → i = j) ∧ ∀ i, i < sN Y → A (sq Y i)
theorem wld_D {Y : SYS} {A : Nat → Prop} (h : QI Y A) (μ : Mem) : va_D A (wld Y μ) := by
  have key : ∀ (k : Nat) (x : Nat × va_E), (wld Y μ)[k]? = some x → k < sN Y ∧ x.1 = sq Y k := by
    intro k x hk
    by_cases hj : k < sN Y
    · rw [wld_get hj] at hk
      cases hk
      exact ⟨hj, rfl⟩
    · rw [List.getElem?_eq_none (by unfold wld; simp; omega)] at hk
      cases hk
  refine ⟨fun i j x y hi hj hxy => ?_, fun k x hk => ?_⟩
  · obtain ⟨a1, a2⟩ := key i x hi
    obtain ⟨b1, b2⟩ := key j y hj
    exact h.1 i j a1 b1 (by rw [← a2, ← b2]; exact hxy)
  · obtain ⟨a1, a2⟩ := key k x hk
    rw [a2]
    exact h.2 k a1
def XO (Y : SYS) : Prop := ∀ (A B : Nat → Prop) (s U : State) (H H1 : Heap), sX Y A s H → s.WarmedH U.vm → (∀ a, a < H.size → ¬ A a → H1[a]? = H[a]?) → (∀ a, B a → A a) → sX Y B U H1
def PreB (Y : SYS) (μ : Mem) (sz : Nat) (U : State) : Prop := U.heap.size = sz ∧ va_P (sD Y) vwCl (wld Y μ) U.heap ∧ va_K (sD Y) vwCl (sT Y) U ∧ QI Y (fun _ => True) ∧ XO Y ∧ sX Y (FA Y sz) U U.heap
def QG (Y : SYS) (o : Option Value) (m : Mem) (sz : Nat) : Array Value → State → Outcome → State → Prop := fun _ st oc t => (oc = .returned o ∧ va_P (sD Y) vwCl (wld Y m) t.heap) ∧ va_F (FA Y sz) st t
def RM (d : Nat) : Room := { frames := d, cells := 0, slots := 0, locals := 40 * d }
/-- a method's contract: from the memory μ it answers o and leaves m -/
def KC (Y : SYS) (y : MethodName) (cc : ByteArray) (n : Nat) (ret : Option FieldType) (d : Nat) (as : List Value) (μ : Mem) (o : Option Value) (m : Mem) : Prop :=
  ∀ sz : Nat, Met (sL Y) y (.code y cc n ret :: WL) (RM d) (va_Pc as (PreB Y μ sz)) (QG Y o m sz) 0 0 (FA Y sz)
abbrev GT : Type := Nat → List (Nat × Value) → List Value → Mem → Prop
def IsG (Y : SYS) (G : GT) (own : String) (cc : ByteArray) (nL : Nat) (R : Room) : Prop :=
  ∃ (p : Program) (e : Env) (s : State) (m : MethodId) (args : Array Value) (below : List Frame) (meth : Method) (c : Code) (cells slots : Nat) (Z : State → Prop) (A : Nat → Prop),
    (G = fun pc lv st μ => ∀ (H : Heap) (locs : List Loc) (ls : Array Slot), va_P (sD Y) vwCl (wld Y μ) H → va_S A s.heap H locs → lv_has ls nL lv → W p (sL Y) e R s m args below meth c H locs cells slots Z (F0 m pc ls st)) ∧
    p.tables.exec = Jvm.exec ∧ c.code = cc ∧ c.maxLocals = nL ∧ s.vm.findClass own = some m.cls ∧ (∀ w ∈ WL, w.before args s = true) ∧ va_K (sD Y) vwCl (sT Y) s ∧ QI Y A ∧ (∀ a, s.heap.size ≤ a → A a) ∧ XO Y ∧ sX Y A s s.heap ∧ cells ≤ R.cells ∧ slots ≤ R.slots
def RetI (G : GT) (cc : ByteArray) (x : Int32) (m : Mem) : Prop := ∀ pc lv, decode cc pc = .ok (.ireturn, 1) → G pc lv [.int x] m
def RetZ (G : GT) (cc : ByteArray) (x : Int32) (m : Mem) : Prop := ∀ pc lv, decode cc pc = .ok (.ireturn, 1) → (x = 0 ∨ x = 1) → G pc lv [.int x] m
def RetV (G : GT) (cc : ByteArray) (m : Mem) : Prop := ∀ pc lv, decode cc pc = .ok (.return_, 1) → G pc lv [] m
def RetA (G : GT) (cc : ByteArray) (a : Nat) (m : Mem) : Prop := ∀ pc lv, decode cc pc = .ok (.areturn, 1) → G pc lv [.ref a] m
def Obj (Y : SYS) (i ci : Nat) (fs : (Nat → Int32) → List Value) : Prop := i < sN Y ∧ ∀ r, sSh Y i r = .inr (ci, fs r)
def IArr (Y : SYS) (i n : Nat) : Prop := i < sN Y ∧ ∃ (cA : ClassId) (t0 : Nat), (sT Y)[t0]? = some (cA, .int) ∧ ∀ r, sSh Y i r = .inl (cA, n, .inl r)
def RArr (Y : SYS) (i n : Nat) (g : Nat → Nat) : Prop := i < sN Y ∧ ∃ (cA : ClassId) (t0 : Nat) (C : String), (sT Y)[t0]? = some (cA, .object C) ∧ ∀ r, sSh Y i r = .inl (cA, n, .inr (.inr (.inr (.inr (fun k => some (sq Y (g k)))))))
def FR (own : String) (index ci k : Nat) : Prop := ∃ (C : String) (T : u_T) (N : Nat), vwCl[ci]? = some (C, T, N) ∧ k < N ∧ (∀ w ∈ u_ws C T N, w ∈ WL) ∧ Cond.fieldLink own index (T k).1 (T k).2.1 (T k).2.2.1 ∈ WL
def FW (own : String) (index ci k : Nat) (ty : FieldType) : Prop := ∃ (C : String) (T : u_T) (N : Nat) (ty0 : Nat → FieldType), vwCl[ci]? = some (C, T, N) ∧ k < N ∧ (∀ w ∈ u_ws C T N, w ∈ WL) ∧ Cond.fieldLink own index (T k).1 (T k).2.1 (T k).2.2.1 ∈ WL ∧ (∀ k, k < N → parseFieldDescriptor (T k).2.2.1 = some (ty0 k)) ∧ (∀ a, a < N → ∀ b, b < N → a ≠ b → (T a).2.1 ≠ (T b).2.1) ∧ (T k).2.2.2 = false ∧ parseFieldDescriptor (T k).2.2.1 = some ty
def MI (y : MethodName) (cc : ByteArray) (n : Nat) (ret : Option FieldType) (k : Nat) : Prop := Cond.code y cc n ret ∈ WL ∧ Cond.initialized y.cls ∈ WL ∧ y.cls ≠ "java/lang/invoke/MethodHandle" ∧ y.cls ≠ "java/lang/invoke/VarHandle" ∧ (parseMethodDescriptor y.desc).map (fun d => d.parameters.length) = some k
def MV (y : MethodName) : Prop := Cond.instanceMethod y ∈ WL ∧ Cond.selects y.cls y y ∈ WL
def MS (y : MethodName) : Prop := Cond.static y ∈ WL
-- pure words: what an instruction asks for before it goes on
def bn1 {α ρ : Type} (o : Option α) (F : α → Option ρ) : Option ρ := match o with
  | none => none
  | some a => F a
def bn2 {ρ : Type} (o : Option (Int32 × Mem)) (F : Int32 → Mem → Option ρ) : Option ρ := match o with
  | none => none
  | some a => F a.1 a.2
def ldM (f : Nat → Int32) (n : Nat) (x : Int32) : Option Int32 := if x < 0 ∨ n ≤ x.toNatClampNeg then none else some (f x.toNatClampNeg)
def stM (μ : Mem) (i n : Nat) (x v : Int32) : Option Mem := if x < 0 ∨ n ≤ x.toNatClampNeg then none else some (mset μ i x.toNatClampNeg v)
def rdM (n : Nat) (x : Int32) : Option Nat := if x < 0 ∨ n ≤ x.toNatClampNeg then none else some x.toNatClampNeg
def dvM (x y : Int32) : Option Int32 := if y = 0 then none else some (x / y)
def rmM (x y : Int32) : Option Int32 := if y = 0 then none else some (x - x / y * y)
def cpM (μ : Mem) (i ni : Nat) (sp : Int32) (j nj : Nat) (dp n : Int32) : Option Mem := if sp < 0 ∨ dp < 0 ∨ n < 0 ∨ ni < sp.toNatClampNeg + n.toNatClampNeg ∨ nj < dp.toNatClampNeg + n.toNatClampNeg then none else some (mrow μ j (va_cpy (μ i) (μ j) sp.toNatClampNeg dp.toNatClampNeg n.toNatClampNeg))
def zM (x : Int32) : Option Int32 := if x = 0 ∨ x = 1 then some x else none
def lpF {V X : Type} (body : V → Option (V ⊕ X)) : Nat → V → Option X
  | 0, _ => none
  | n + 1, v => match body v with
    | none => none
    | some (.inl v') => lpF body n v'
    | some (.inr x) => some x
def cs2 {A B ρ : Type} (x : A ⊕ B) (f : A → Option ρ) (g : B → Option ρ) : Option ρ := match x with
  | .inl a => f a
  | .inr b => g b
theorem bn1_i {α ρ : Type} {o : Option α} {F : α → Option ρ} {r : ρ} (h : bn1 o F = some r) : ∃ a, o = some a ∧ F a = some r := by
  cases o with
  | none => cases h
  | some a => exact ⟨a, rfl, h⟩
theorem bn2_i {ρ : Type} {o : Option (Int32 × Mem)} {F : Int32 → Mem → Option ρ} {r : ρ} (h : bn2 o F = some r) : ∃ a m, o = some (a, m) ∧ F a m = some r := by
  cases o with
  | none => cases h
  | some a => exact ⟨a.1, a.2, rfl, h⟩
theorem ite_t {ρ : Type} {c : Prop} {inst : Decidable c} {A B : Option ρ} {r : ρ} (h : c) (hf : @ite _ c inst A B = some r) : A = some r := by rw [if_pos h] at hf; exact hf
theorem ite_f {ρ : Type} {c : Prop} {inst : Decidable c} {A B : Option ρ} {r : ρ} (h : ¬ c) (hf : @ite _ c inst A B = some r) : B = some r := by rw [if_neg h] at hf; exact hf
theorem lpF_i {V X : Type} {body : V → Option (V ⊕ X)} {P : V → Prop} {K : X → Prop} (hstep : ∀ (v : V) (z : V ⊕ X), body v = some z → (∀ v', z = .inl v' → P v') → (∀ x, z = .inr x → K x) → P v) : ∀ (n : Nat) (v : V) (x : X), lpF body n v = some x → K x → P v := by
  intro n
  induction n with
  | zero => intro v x h; cases h
  | succ n ih =>
    intro v x h hK
    cases hb : body v with
    | none => rw [lpF, hb] at h; cases h
    | some z =>
      rw [lpF, hb] at h
      refine hstep v z hb (fun v' e => ?_) (fun x' e => ?_)
      · subst e
        exact ih v' x h hK
      · subst e
        cases h
        exact hK
theorem wl_of {w : Cond} (h : w ∈ lw_tbl) (hg : goodWord w = true) : w ∈ WL := List.mem_filter.mpr ⟨h, hg⟩
theorem wl_gi {w : Cond} (h : w ∈ WL) : w ∈ WL ∧ ((w.onTables && w.keeps) = true ∨ ∃ ty, w = .arrayClass ty) := ⟨h, good_of_word (List.mem_filter.mp h).2⟩
theorem wl_code {y : MethodName} {cc : ByteArray} {n : Nat} {ret : Option FieldType} (h : Cond.code y cc n ret ∈ WL) : GoodIn WL (.code y cc n ret :: WL) := fun w hw => (List.mem_cons.mp hw).elim (fun e => e ▸ wl_gi h) wl_gi
theorem FA_sub {Y : SYS} {A : Nat → Prop} {n n2 : Nat} (hQ : QI Y A) (hA : ∀ a, n ≤ a → A a) (h : n ≤ n2) : ∀ q, FA Y n2 q → A q := fun q hq => hq.elim (fun ⟨i, hi, e⟩ => e ▸ hQ.2 i hi) (fun z => hA q (Nat.le_trans h z))
theorem QI.of {Y : SYS} {A B : Nat → Prop} (h : QI Y A) (hB : ∀ i, i < sN Y → B (sq Y i)) : QI Y B := ⟨h.1, hB⟩
section WB
variable {p : Program} {l : Launch} {e : Env} {R : Room} {s : State} {m : MethodId} {args : Array Value} {below : List Frame} {meth : Method} {c : Code} {H : Heap} {locs : List Loc} {cells slots : Nat} {Q : State → Prop}
variable {pc : Nat} {ls : Array Slot} {rest st0 : List Value} {a : Array Value} {A : Nat → Prop}
theorem w_back {Y : SYS} {o : Option Value} {m' : Mem} (hr : va_Run p l e R s m args below meth c H locs cells slots 0 0 (F0 m pc ls st0) rest (QG Y o m' H.size a) (FA Y H.size)) (hS : va_S A s.heap H locs) (hF : ∀ q, FA Y H.size q → A q)
    (kk : ∀ (H1 : Heap) (locs1 : List Loc), va_P (sD Y) vwCl (wld Y m') H1 → va_S A s.heap H1 locs1 → W p l e R s m args below meth c H1 locs1 cells slots Q (F0 m (pc + 3) ls (o.toList ++ rest))) : W p l e R s m args below meth c H locs cells slots Q (F0 m pc ls st0) := by
  intro T hT X
  obtain ⟨v, st₀, t, T', L, h0, X', hL, e1, e2, ⟨⟨hv, hp⟩, hz, hk⟩, st⟩ := hr T hT X
  cases hv
  rw [h0] at hz hk
  obtain ⟨t2, a1, b1⟩ := kk T'.heap (locs ++ L) (by rw [e1]; exact hp)
    ⟨Nat.le_trans hS.1 (by rw [e1]; exact hz), fun q h1 h2 => by rw [e1, hk q (Nat.lt_of_lt_of_le h1 hS.1) (fun z => h2 (hF q z))]; exact hS.2.1 q h1 h2, fun q hq => by
      rcases List.mem_append.mp hq with h | h
      · exact hS.2.2 q h
      · exact hF _ (hL q h)⟩ T' rfl X'
  exact ⟨t2, st t2 a1, b1⟩
theorem pre_blind {Y : SYS} {as : List Value} {μ : Mem} {sz : Nat} : FrameBlind (va_Pc as (PreB Y μ sz)) := by
  intro a U g mk q
  obtain ⟨q0, q1, q2, q3, q4, q5, q6⟩ := q
  exact ⟨q0, q1, q2, va_K.moved (u := U) (U := U.calling g mk a) (Vm.Alike.refl U.vm) q3, q4, q5, q5 _ _ U (U.calling g mk a) _ _ q6 (State.WarmedH.refl U) (fun _ _ _ => rfl) (fun _ h => h)⟩
theorem pre_at {Y : SYS} {μ : Mem} {as : List Value} (hP : va_P (sD Y) vwCl (wld Y μ) H) (hS : va_S A s.heap H locs) (hK : va_K (sD Y) vwCl (sT Y) s) (hQ : QI Y A) (hA : ∀ a, s.heap.size ≤ a → A a) (hXO : XO Y) (hX : sX Y A s s.heap) : ∀ U : State, U.heap = H → s.WarmedH U.vm → va_Pc as (PreB Y μ H.size) as.toArray U := by
  intro U hU hW
  refine ⟨rfl, by rw [hU], by rw [hU]; exact hP, va_K.moved hW.alike hK, hQ.of (fun _ _ => trivial), hXO, ?_⟩
  rw [hU]
  exact hXO A _ s U s.heap H hX hW hS.2.1 (FA_sub hQ hA hS.1)
end WB
section GR
variable {Y : SYS} {G : GT} {own : String} {cc : ByteArray} {nL : Nat} {R : Room} {pc : Nat} {lv lv' : List (Nat × Value)} {st rest : List Value} {μ : Mem}
theorem g_iconst (Γ : IsG Y G own cc nL R) {n : Int} {v : Int32} (hd : decode cc pc = .ok (.iconst n, 1))  (hv : Int32.ofInt n = v) (kk : G (pc + 1) lv (.int v :: st) μ) : G pc lv st μ := by
  obtain ⟨p, e, s, m, args, below, meth, c, cells, slots, Z, A, rfl, hx, hb, hml, hown, hts, hK, hQ, hA, hXO, hX, hcl, hsl⟩ := Γ
  intro H locs ls hP hS hl
  exact lv_iconst hx hb hd hv (kk H locs ls hP hS hl)
theorem g_bipush (Γ : IsG Y G own cc nL R) {n : Int} {v : Int32} (hd : decode cc pc = .ok (.bipush n, 2))  (hv : (Int8.ofInt n).toInt32 = v) (kk : G (pc + 2) lv (.int v :: st) μ) : G pc lv st μ := by
  obtain ⟨p, e, s, m, args, below, meth, c, cells, slots, Z, A, rfl, hx, hb, hml, hown, hts, hK, hQ, hA, hXO, hX, hcl, hsl⟩ := Γ
  intro H locs ls hP hS hl
  exact lv_bipush hx hb hd hv (kk H locs ls hP hS hl)
theorem g_sipush (Γ : IsG Y G own cc nL R) {n : Int} {v : Int32} (hd : decode cc pc = .ok (.sipush n, 3))  (hv : (Int16.ofInt n).toInt32 = v) (kk : G (pc + 3) lv (.int v :: st) μ) : G pc lv st μ := by
  obtain ⟨p, e, s, m, args, below, meth, c, cells, slots, Z, A, rfl, hx, hb, hml, hown, hts, hK, hQ, hA, hXO, hX, hcl, hsl⟩ := Γ
  intro H locs ls hP hS hl
  exact lv_sipush hx hb hd hv (kk H locs ls hP hS hl)
theorem g_lconst (Γ : IsG Y G own cc nL R) {n : Fin 2} {v : Int64} (hd : decode cc pc = .ok (.lconst n, 1))  (hv : Int64.ofNat (n : Nat) = v) (kk : G (pc + 1) lv (.long v :: st) μ) : G pc lv st μ := by
  obtain ⟨p, e, s, m, args, below, meth, c, cells, slots, Z, A, rfl, hx, hb, hml, hown, hts, hK, hQ, hA, hXO, hX, hcl, hsl⟩ := Γ
  intro H locs ls hP hS hl
  exact lv_lconst hx hb hd hv (kk H locs ls hP hS hl)
theorem g_ldc (Γ : IsG Y G own cc nL R) {index : Nat} {v : Int32} (hd : decode cc pc = .ok (.ldc index, 2))  (hw : Cond.constant own index v ∈ WL) (kk : G (pc + 2) lv (.int v :: st) μ) : G pc lv st μ := by
  obtain ⟨p, e, s, m, args, below, meth, c, cells, slots, Z, A, rfl, hx, hb, hml, hown, hts, hK, hQ, hA, hXO, hX, hcl, hsl⟩ := Γ
  intro H locs ls hP hS hl
  exact lv_ldc hx hb hown (hts _ hw) hd (kk H locs ls hP hS hl)
theorem g_ldcw (Γ : IsG Y G own cc nL R) {index : Nat} {v : Int32} (hd : decode cc pc = .ok (.ldc_w index, 3))  (hw : Cond.constant own index v ∈ WL) (kk : G (pc + 3) lv (.int v :: st) μ) : G pc lv st μ := by
  obtain ⟨p, e, s, m, args, below, meth, c, cells, slots, Z, A, rfl, hx, hb, hml, hown, hts, hK, hQ, hA, hXO, hX, hcl, hsl⟩ := Γ
  intro H locs ls hP hS hl
  exact lv_ldcw hx hb hown (hts _ hw) hd (kk H locs ls hP hS hl)
theorem g_ldc2 (Γ : IsG Y G own cc nL R) {index : Nat} {v : Int64} (hd : decode cc pc = .ok (.ldc2_w index, 3))  (hw : Cond.constantLong own index v ∈ WL) (kk : G (pc + 3) lv (.long v :: st) μ) : G pc lv st μ := by
  obtain ⟨p, e, s, m, args, below, meth, c, cells, slots, Z, A, rfl, hx, hb, hml, hown, hts, hK, hQ, hA, hXO, hX, hcl, hsl⟩ := Γ
  intro H locs ls hP hS hl
  exact lv_ldc2 hx hb hown (hts _ hw) hd (kk H locs ls hP hS hl)
theorem g_iload_n (Γ : IsG Y G own cc nL R) {k : Fin 4} {i : Nat} {x : Int32} (j : Nat) (hd : decode cc pc = .ok (.iload_n k, 1))  (hi : (k : Nat) = i) (hj : lv[j]? = some (i, .int x)) (kk : G (pc + 1) lv (.int x :: st) μ) : G pc lv st μ := by
  obtain ⟨p, e, s, m, args, below, meth, c, cells, slots, Z, A, rfl, hx, hb, hml, hown, hts, hK, hQ, hA, hXO, hX, hcl, hsl⟩ := Γ
  intro H locs ls hP hS hl
  exact lv_iload_n hx hb hd hi (lv_at hl j hj) (kk H locs ls hP hS hl)
theorem g_iload (Γ : IsG Y G own cc nL R) {i : Nat} {x : Int32} (j : Nat) (hd : decode cc pc = .ok (.iload i, 2))  (hj : lv[j]? = some (i, .int x)) (kk : G (pc + 2) lv (.int x :: st) μ) : G pc lv st μ := by
  obtain ⟨p, e, s, m, args, below, meth, c, cells, slots, Z, A, rfl, hx, hb, hml, hown, hts, hK, hQ, hA, hXO, hX, hcl, hsl⟩ := Γ
  intro H locs ls hP hS hl
  exact lv_iload hx hb hd (lv_at hl j hj) (kk H locs ls hP hS hl)
theorem g_lload_n (Γ : IsG Y G own cc nL R) {k : Fin 4} {i : Nat} {x : Int64} (j : Nat) (hd : decode cc pc = .ok (.lload_n k, 1))  (hi : (k : Nat) = i) (hj : lv[j]? = some (i, .long x)) (kk : G (pc + 1) lv (.long x :: st) μ) : G pc lv st μ := by
  obtain ⟨p, e, s, m, args, below, meth, c, cells, slots, Z, A, rfl, hx, hb, hml, hown, hts, hK, hQ, hA, hXO, hX, hcl, hsl⟩ := Γ
  intro H locs ls hP hS hl
  exact lv_lload_n hx hb hd hi (lv_at hl j hj) (kk H locs ls hP hS hl)
theorem g_lload (Γ : IsG Y G own cc nL R) {i : Nat} {x : Int64} (j : Nat) (hd : decode cc pc = .ok (.lload i, 2))  (hj : lv[j]? = some (i, .long x)) (kk : G (pc + 2) lv (.long x :: st) μ) : G pc lv st μ := by
  obtain ⟨p, e, s, m, args, below, meth, c, cells, slots, Z, A, rfl, hx, hb, hml, hown, hts, hK, hQ, hA, hXO, hX, hcl, hsl⟩ := Γ
  intro H locs ls hP hS hl
  exact lv_lload hx hb hd (lv_at hl j hj) (kk H locs ls hP hS hl)
theorem g_aload_n (Γ : IsG Y G own cc nL R) {k : Fin 4} {i : Nat} {x : Nat} (j : Nat) (hd : decode cc pc = .ok (.aload_n k, 1))  (hi : (k : Nat) = i) (hj : lv[j]? = some (i, .ref x)) (kk : G (pc + 1) lv (.ref x :: st) μ) : G pc lv st μ := by
  obtain ⟨p, e, s, m, args, below, meth, c, cells, slots, Z, A, rfl, hx, hb, hml, hown, hts, hK, hQ, hA, hXO, hX, hcl, hsl⟩ := Γ
  intro H locs ls hP hS hl
  exact lv_aload_n hx hb hd hi (lv_at hl j hj) (kk H locs ls hP hS hl)
theorem g_aload (Γ : IsG Y G own cc nL R) {i : Nat} {x : Nat} (j : Nat) (hd : decode cc pc = .ok (.aload i, 2))  (hj : lv[j]? = some (i, .ref x)) (kk : G (pc + 2) lv (.ref x :: st) μ) : G pc lv st μ := by
  obtain ⟨p, e, s, m, args, below, meth, c, cells, slots, Z, A, rfl, hx, hb, hml, hown, hts, hK, hQ, hA, hXO, hX, hcl, hsl⟩ := Γ
  intro H locs ls hP hS hl
  exact lv_aload hx hb hd (lv_at hl j hj) (kk H locs ls hP hS hl)
theorem g_istore_n (Γ : IsG Y G own cc nL R) {k : Fin 4} {i : Nat} {x : Int32} (hd : decode cc pc = .ok (.istore_n k, 1))  (hi : (k : Nat) = i) (hn : i < nL) (hlv : (i, Value.int x) :: lv.filter (fun q => !(q.1 == i) && !(q.1 + 1 == i && q.2.category == 2)) = lv') (kk : G (pc + 1) lv' (st) μ) : G pc lv (.int x :: st) μ := by
  obtain ⟨p, e, s, m, args, below, meth, c, cells, slots, Z, A, rfl, hx, hb, hml, hown, hts, hK, hQ, hA, hXO, hX, hcl, hsl⟩ := Γ
  intro H locs ls hP hS hl
  exact lv_istore_n hx hb hd hi hl hn hlv (fun ls hl => kk H locs ls hP hS hl)
theorem g_istore (Γ : IsG Y G own cc nL R) {i : Nat} {x : Int32} (hd : decode cc pc = .ok (.istore i, 2))  (hn : i < nL) (hlv : (i, Value.int x) :: lv.filter (fun q => !(q.1 == i) && !(q.1 + 1 == i && q.2.category == 2)) = lv') (kk : G (pc + 2) lv' (st) μ) : G pc lv (.int x :: st) μ := by
  obtain ⟨p, e, s, m, args, below, meth, c, cells, slots, Z, A, rfl, hx, hb, hml, hown, hts, hK, hQ, hA, hXO, hX, hcl, hsl⟩ := Γ
  intro H locs ls hP hS hl
  exact lv_istore hx hb hd hl hn hlv (fun ls hl => kk H locs ls hP hS hl)
theorem g_astore_n (Γ : IsG Y G own cc nL R) {k : Fin 4} {i : Nat} {x : Nat} (hd : decode cc pc = .ok (.astore_n k, 1))  (hi : (k : Nat) = i) (hn : i < nL) (hlv : (i, Value.ref x) :: lv.filter (fun q => !(q.1 == i) && !(q.1 + 1 == i && q.2.category == 2)) = lv') (kk : G (pc + 1) lv' (st) μ) : G pc lv (.ref x :: st) μ := by
  obtain ⟨p, e, s, m, args, below, meth, c, cells, slots, Z, A, rfl, hx, hb, hml, hown, hts, hK, hQ, hA, hXO, hX, hcl, hsl⟩ := Γ
  intro H locs ls hP hS hl
  exact lv_astore_n hx hb hd hi hl hn hlv (fun ls hl => kk H locs ls hP hS hl)
theorem g_astore (Γ : IsG Y G own cc nL R) {i : Nat} {x : Nat} (hd : decode cc pc = .ok (.astore i, 2))  (hn : i < nL) (hlv : (i, Value.ref x) :: lv.filter (fun q => !(q.1 == i) && !(q.1 + 1 == i && q.2.category == 2)) = lv') (kk : G (pc + 2) lv' (st) μ) : G pc lv (.ref x :: st) μ := by
  obtain ⟨p, e, s, m, args, below, meth, c, cells, slots, Z, A, rfl, hx, hb, hml, hown, hts, hK, hQ, hA, hXO, hX, hcl, hsl⟩ := Γ
  intro H locs ls hP hS hl
  exact lv_astore hx hb hd hl hn hlv (fun ls hl => kk H locs ls hP hS hl)
theorem g_iinc (Γ : IsG Y G own cc nL R) {i : Nat} {n : Int} {x v : Int32} (j : Nat) (hd : decode cc pc = .ok (.iinc i n, 3))  (hj : lv[j]? = some (i, .int x)) (hv : x + Int32.ofInt n = v) (hn : i < nL) (hlv : (i, Value.int v) :: lv.filter (fun q => !(q.1 == i) && !(q.1 + 1 == i && q.2.category == 2)) = lv') (kk : G (pc + 3) lv' (st) μ) : G pc lv st μ := by
  obtain ⟨p, e, s, m, args, below, meth, c, cells, slots, Z, A, rfl, hx, hb, hml, hown, hts, hK, hQ, hA, hXO, hX, hcl, hsl⟩ := Γ
  intro H locs ls hP hS hl
  exact lv_iinc hx hb hd hl hj hv hn hlv (fun ls hl => kk H locs ls hP hS hl)
theorem g_iadd (Γ : IsG Y G own cc nL R) {x y : Int32} (hd : decode cc pc = .ok (.iadd, 1))  (kk : G (pc + 1) lv (.int (x + y) :: st) μ) : G pc lv (.int y :: .int x :: st) μ := by
  obtain ⟨p, e, s, m, args, below, meth, c, cells, slots, Z, A, rfl, hx, hb, hml, hown, hts, hK, hQ, hA, hXO, hX, hcl, hsl⟩ := Γ
  intro H locs ls hP hS hl
  exact lv_iadd hx hb hd (kk H locs ls hP hS hl)
theorem g_isub (Γ : IsG Y G own cc nL R) {x y : Int32} (hd : decode cc pc = .ok (.isub, 1))  (kk : G (pc + 1) lv (.int (x - y) :: st) μ) : G pc lv (.int y :: .int x :: st) μ := by
  obtain ⟨p, e, s, m, args, below, meth, c, cells, slots, Z, A, rfl, hx, hb, hml, hown, hts, hK, hQ, hA, hXO, hX, hcl, hsl⟩ := Γ
  intro H locs ls hP hS hl
  exact lv_isub hx hb hd (kk H locs ls hP hS hl)
theorem g_imul (Γ : IsG Y G own cc nL R) {x y : Int32} (hd : decode cc pc = .ok (.imul, 1))  (kk : G (pc + 1) lv (.int (x * y) :: st) μ) : G pc lv (.int y :: .int x :: st) μ := by
  obtain ⟨p, e, s, m, args, below, meth, c, cells, slots, Z, A, rfl, hx, hb, hml, hown, hts, hK, hQ, hA, hXO, hX, hcl, hsl⟩ := Γ
  intro H locs ls hP hS hl
  exact lv_imul hx hb hd (kk H locs ls hP hS hl)
theorem g_iand (Γ : IsG Y G own cc nL R) {x y : Int32} (hd : decode cc pc = .ok (.iand, 1))  (kk : G (pc + 1) lv (.int (x &&& y) :: st) μ) : G pc lv (.int y :: .int x :: st) μ := by
  obtain ⟨p, e, s, m, args, below, meth, c, cells, slots, Z, A, rfl, hx, hb, hml, hown, hts, hK, hQ, hA, hXO, hX, hcl, hsl⟩ := Γ
  intro H locs ls hP hS hl
  exact lv_iand hx hb hd (kk H locs ls hP hS hl)
theorem g_ior (Γ : IsG Y G own cc nL R) {x y : Int32} (hd : decode cc pc = .ok (.ior, 1))  (kk : G (pc + 1) lv (.int (x ||| y) :: st) μ) : G pc lv (.int y :: .int x :: st) μ := by
  obtain ⟨p, e, s, m, args, below, meth, c, cells, slots, Z, A, rfl, hx, hb, hml, hown, hts, hK, hQ, hA, hXO, hX, hcl, hsl⟩ := Γ
  intro H locs ls hP hS hl
  exact lv_ior hx hb hd (kk H locs ls hP hS hl)
theorem g_ixor (Γ : IsG Y G own cc nL R) {x y : Int32} (hd : decode cc pc = .ok (.ixor, 1))  (kk : G (pc + 1) lv (.int (x ^^^ y) :: st) μ) : G pc lv (.int y :: .int x :: st) μ := by
  obtain ⟨p, e, s, m, args, below, meth, c, cells, slots, Z, A, rfl, hx, hb, hml, hown, hts, hK, hQ, hA, hXO, hX, hcl, hsl⟩ := Γ
  intro H locs ls hP hS hl
  exact lv_ixor hx hb hd (kk H locs ls hP hS hl)
theorem g_ishl (Γ : IsG Y G own cc nL R) {x y : Int32} (hd : decode cc pc = .ok (.ishl, 1))  (kk : G (pc + 1) lv (.int (x <<< (y &&& 31)) :: st) μ) : G pc lv (.int y :: .int x :: st) μ := by
  obtain ⟨p, e, s, m, args, below, meth, c, cells, slots, Z, A, rfl, hx, hb, hml, hown, hts, hK, hQ, hA, hXO, hX, hcl, hsl⟩ := Γ
  intro H locs ls hP hS hl
  exact lv_ishl hx hb hd (kk H locs ls hP hS hl)
theorem g_ishr (Γ : IsG Y G own cc nL R) {x y : Int32} (hd : decode cc pc = .ok (.ishr, 1))  (kk : G (pc + 1) lv (.int (x >>> (y &&& 31)) :: st) μ) : G pc lv (.int y :: .int x :: st) μ := by
  obtain ⟨p, e, s, m, args, below, meth, c, cells, slots, Z, A, rfl, hx, hb, hml, hown, hts, hK, hQ, hA, hXO, hX, hcl, hsl⟩ := Γ
  intro H locs ls hP hS hl
  exact lv_ishr hx hb hd (kk H locs ls hP hS hl)
theorem g_iushr (Γ : IsG Y G own cc nL R) {x y : Int32} (hd : decode cc pc = .ok (.iushr, 1))  (kk : G (pc + 1) lv (.int ((x.toUInt32 >>> (y.toUInt32 &&& Int32.toUInt32 31)).toInt32) :: st) μ) : G pc lv (.int y :: .int x :: st) μ := by
  obtain ⟨p, e, s, m, args, below, meth, c, cells, slots, Z, A, rfl, hx, hb, hml, hown, hts, hK, hQ, hA, hXO, hX, hcl, hsl⟩ := Γ
  intro H locs ls hP hS hl
  exact lv_iushr hx hb hd rfl (kk H locs ls hP hS hl)
theorem g_ineg (Γ : IsG Y G own cc nL R) {x : Int32} (hd : decode cc pc = .ok (.ineg, 1))  (kk : G (pc + 1) lv (.int (-x) :: st) μ) : G pc lv (.int x :: st) μ := by
  obtain ⟨p, e, s, m, args, below, meth, c, cells, slots, Z, A, rfl, hx, hb, hml, hown, hts, hK, hQ, hA, hXO, hX, hcl, hsl⟩ := Γ
  intro H locs ls hP hS hl
  exact lv_ineg hx hb hd (kk H locs ls hP hS hl)
theorem g_i2s (Γ : IsG Y G own cc nL R) {x : Int32} (hd : decode cc pc = .ok (.i2s, 1))  (kk : G (pc + 1) lv (.int (x.toInt16.toInt32) :: st) μ) : G pc lv (.int x :: st) μ := by
  obtain ⟨p, e, s, m, args, below, meth, c, cells, slots, Z, A, rfl, hx, hb, hml, hown, hts, hK, hQ, hA, hXO, hX, hcl, hsl⟩ := Γ
  intro H locs ls hP hS hl
  exact lv_i2s hx hb hd rfl (kk H locs ls hP hS hl)
theorem g_i2c (Γ : IsG Y G own cc nL R) {x : Int32} (hd : decode cc pc = .ok (.i2c, 1))  (kk : G (pc + 1) lv (.int ((x.toUInt32 % 65536).toInt32) :: st) μ) : G pc lv (.int x :: st) μ := by
  obtain ⟨p, e, s, m, args, below, meth, c, cells, slots, Z, A, rfl, hx, hb, hml, hown, hts, hK, hQ, hA, hXO, hX, hcl, hsl⟩ := Γ
  intro H locs ls hP hS hl
  exact lv_i2c hx hb hd rfl (kk H locs ls hP hS hl)
theorem g_i2l (Γ : IsG Y G own cc nL R) {x : Int32} (hd : decode cc pc = .ok (.i2l, 1))  (kk : G (pc + 1) lv (.long (x.toInt64) :: st) μ) : G pc lv (.int x :: st) μ := by
  obtain ⟨p, e, s, m, args, below, meth, c, cells, slots, Z, A, rfl, hx, hb, hml, hown, hts, hK, hQ, hA, hXO, hX, hcl, hsl⟩ := Γ
  intro H locs ls hP hS hl
  exact lv_i2l hx hb hd rfl (kk H locs ls hP hS hl)
theorem g_ladd (Γ : IsG Y G own cc nL R) {x y : Int64} (hd : decode cc pc = .ok (.ladd, 1))  (kk : G (pc + 1) lv (.long (x + y) :: st) μ) : G pc lv (.long y :: .long x :: st) μ := by
  obtain ⟨p, e, s, m, args, below, meth, c, cells, slots, Z, A, rfl, hx, hb, hml, hown, hts, hK, hQ, hA, hXO, hX, hcl, hsl⟩ := Γ
  intro H locs ls hP hS hl
  exact lv_ladd hx hb hd (kk H locs ls hP hS hl)
theorem g_lcmp (Γ : IsG Y G own cc nL R) {x y : Int64} (hd : decode cc pc = .ok (.lcmp, 1))  (kk : G (pc + 1) lv (.int (lg_cmp x y) :: st) μ) : G pc lv (.long y :: .long x :: st) μ := by
  obtain ⟨p, e, s, m, args, below, meth, c, cells, slots, Z, A, rfl, hx, hb, hml, hown, hts, hK, hQ, hA, hXO, hX, hcl, hsl⟩ := Γ
  intro H locs ls hP hS hl
  exact W.lcmp hx hb hd (kk H locs ls hP hS hl)
theorem g_idiv (Γ : IsG Y G own cc nL R) {ρ : Type} {x y : Int32} {F : Int32 → Option ρ} {r : ρ} (hd : decode cc pc = .ok (.idiv, 1))  (hf : bn1 (dvM x y) F = some r) (kk : ∀ v, F v = some r → G (pc + 1) lv (.int v :: st) μ) : G pc lv (.int y :: .int x :: st) μ := by
  obtain ⟨p, e, s, m, args, below, meth, c, cells, slots, Z, A, rfl, hx, hb, hml, hown, hts, hK, hQ, hA, hXO, hX, hcl, hsl⟩ := Γ
  intro H locs ls hP hS hl
  obtain ⟨v, h1, h2⟩ := bn1_i hf
  unfold dvM at h1
  by_cases hy : y = 0
  · rw [if_pos hy] at h1; cases h1
  · rw [if_neg hy] at h1; cases h1
    exact lv_idiv hx hb hd hy (kk _ h2 H locs ls hP hS hl)
theorem g_irem (Γ : IsG Y G own cc nL R) {ρ : Type} {x y : Int32} {F : Int32 → Option ρ} {r : ρ} (hd : decode cc pc = .ok (.irem, 1))  (hf : bn1 (rmM x y) F = some r) (kk : ∀ v, F v = some r → G (pc + 1) lv (.int v :: st) μ) : G pc lv (.int y :: .int x :: st) μ := by
  obtain ⟨p, e, s, m, args, below, meth, c, cells, slots, Z, A, rfl, hx, hb, hml, hown, hts, hK, hQ, hA, hXO, hX, hcl, hsl⟩ := Γ
  intro H locs ls hP hS hl
  obtain ⟨v, h1, h2⟩ := bn1_i hf
  unfold rmM at h1
  by_cases hy : y = 0
  · rw [if_pos hy] at h1; cases h1
  · rw [if_neg hy] at h1; cases h1
    exact lv_irem hx hb hd hy (kk _ h2 H locs ls hP hS hl)
theorem g_dup (Γ : IsG Y G own cc nL R) {v : Value} (hd : decode cc pc = .ok (.dup, 1))  (hv : v.category = 1) (kk : G (pc + 1) lv (v :: v :: st) μ) : G pc lv (v :: st) μ := by
  obtain ⟨p, e, s, m, args, below, meth, c, cells, slots, Z, A, rfl, hx, hb, hml, hown, hts, hK, hQ, hA, hXO, hX, hcl, hsl⟩ := Γ
  intro H locs ls hP hS hl
  exact lv_dup hx hb hd hv (kk H locs ls hP hS hl)
theorem g_pop (Γ : IsG Y G own cc nL R) {v : Value} (hd : decode cc pc = .ok (.pop, 1))  (hv : v.category = 1) (kk : G (pc + 1) lv (st) μ) : G pc lv (v :: st) μ := by
  obtain ⟨p, e, s, m, args, below, meth, c, cells, slots, Z, A, rfl, hx, hb, hml, hown, hts, hK, hQ, hA, hXO, hX, hcl, hsl⟩ := Γ
  intro H locs ls hP hS hl
  exact lv_pop hx hb hd hv (kk H locs ls hP hS hl)
theorem g_dup_x1 (Γ : IsG Y G own cc nL R) {v u : Value} (hd : decode cc pc = .ok (.dup_x1, 1))  (hv : v.category = 1) (hu : u.category = 1) (kk : G (pc + 1) lv (v :: u :: v :: st) μ) : G pc lv (v :: u :: st) μ := by
  obtain ⟨p, e, s, m, args, below, meth, c, cells, slots, Z, A, rfl, hx, hb, hml, hown, hts, hK, hQ, hA, hXO, hX, hcl, hsl⟩ := Γ
  intro H locs ls hP hS hl
  exact lv_dup_x1 hx hb hd hv hu (kk H locs ls hP hS hl)
theorem g_dup2 (Γ : IsG Y G own cc nL R) {v u : Value} (hd : decode cc pc = .ok (.dup2, 1))  (hv : v.category = 1) (hu : u.category = 1) (kk : G (pc + 1) lv (v :: u :: v :: u :: st) μ) : G pc lv (v :: u :: st) μ := by
  obtain ⟨p, e, s, m, args, below, meth, c, cells, slots, Z, A, rfl, hx, hb, hml, hown, hts, hK, hQ, hA, hXO, hX, hcl, hsl⟩ := Γ
  intro H locs ls hP hS hl
  exact lv_dup2_11 hx hb hd hv hu (kk H locs ls hP hS hl)
theorem g_icmp_eq (Γ : IsG Y G own cc nL R) {x y : Int32} {off : Int} {tgt : Nat} {ρ : Type} {A B : Option ρ} {r : ρ} {inst : Decidable (x = y)} (hd : decode cc pc = .ok (.if_icmp .eq off, 3))  (ht : (pc : Int) + off = (tgt : Int)) (hf : @ite _ (x = y) inst A B = some r) (kt : A = some r → G tgt lv st μ) (kf : B = some r → G (pc + 3) lv st μ) : G pc lv (.int y :: .int x :: st) μ := by
  obtain ⟨p, e, s, m, args, below, meth, c, cells, slots, Z, A, rfl, hx, hb, hml, hown, hts, hK, hQ, hA, hXO, hX, hcl, hsl⟩ := Γ
  intro H locs ls hP hS hl
  exact lv_icmp_eq hx hb hd ht (fun h => kt (ite_t h hf) H locs ls hP hS hl) (fun h => kf (ite_f h hf) H locs ls hP hS hl)
theorem g_if_eq (Γ : IsG Y G own cc nL R) {x : Int32} {off : Int} {tgt : Nat} {ρ : Type} {A B : Option ρ} {r : ρ} {inst : Decidable (x = 0)} (hd : decode cc pc = .ok (.ifCond .eq off, 3))  (ht : (pc : Int) + off = (tgt : Int)) (hf : @ite _ (x = 0) inst A B = some r) (kt : A = some r → G tgt lv st μ) (kf : B = some r → G (pc + 3) lv st μ) : G pc lv (.int x :: st) μ := by
  obtain ⟨p, e, s, m, args, below, meth, c, cells, slots, Z, A, rfl, hx, hb, hml, hown, hts, hK, hQ, hA, hXO, hX, hcl, hsl⟩ := Γ
  intro H locs ls hP hS hl
  exact lv_if_eq hx hb hd ht (fun h => kt (ite_t h hf) H locs ls hP hS hl) (fun h => kf (ite_f h hf) H locs ls hP hS hl)
theorem g_icmp_ne (Γ : IsG Y G own cc nL R) {x y : Int32} {off : Int} {tgt : Nat} {ρ : Type} {A B : Option ρ} {r : ρ} {inst : Decidable (x = y)} (hd : decode cc pc = .ok (.if_icmp .ne off, 3))  (ht : (pc : Int) + off = (tgt : Int)) (hf : @ite _ (x = y) inst A B = some r) (kt : B = some r → G tgt lv st μ) (kf : A = some r → G (pc + 3) lv st μ) : G pc lv (.int y :: .int x :: st) μ := by
  obtain ⟨p, e, s, m, args, below, meth, c, cells, slots, Z, A, rfl, hx, hb, hml, hown, hts, hK, hQ, hA, hXO, hX, hcl, hsl⟩ := Γ
  intro H locs ls hP hS hl
  exact lv_icmp_ne hx hb hd ht (fun h => kt (ite_f h hf) H locs ls hP hS hl) (fun h => kf (ite_t h hf) H locs ls hP hS hl)
theorem g_if_ne (Γ : IsG Y G own cc nL R) {x : Int32} {off : Int} {tgt : Nat} {ρ : Type} {A B : Option ρ} {r : ρ} {inst : Decidable (x = 0)} (hd : decode cc pc = .ok (.ifCond .ne off, 3))  (ht : (pc : Int) + off = (tgt : Int)) (hf : @ite _ (x = 0) inst A B = some r) (kt : B = some r → G tgt lv st μ) (kf : A = some r → G (pc + 3) lv st μ) : G pc lv (.int x :: st) μ := by
  obtain ⟨p, e, s, m, args, below, meth, c, cells, slots, Z, A, rfl, hx, hb, hml, hown, hts, hK, hQ, hA, hXO, hX, hcl, hsl⟩ := Γ
  intro H locs ls hP hS hl
  exact lv_if_ne hx hb hd ht (fun h => kt (ite_f h hf) H locs ls hP hS hl) (fun h => kf (ite_t h hf) H locs ls hP hS hl)
theorem g_icmp_lt (Γ : IsG Y G own cc nL R) {x y : Int32} {off : Int} {tgt : Nat} {ρ : Type} {A B : Option ρ} {r : ρ} {inst : Decidable (x < y)} (hd : decode cc pc = .ok (.if_icmp .lt off, 3))  (ht : (pc : Int) + off = (tgt : Int)) (hf : @ite _ (x < y) inst A B = some r) (kt : A = some r → G tgt lv st μ) (kf : B = some r → G (pc + 3) lv st μ) : G pc lv (.int y :: .int x :: st) μ := by
  obtain ⟨p, e, s, m, args, below, meth, c, cells, slots, Z, A, rfl, hx, hb, hml, hown, hts, hK, hQ, hA, hXO, hX, hcl, hsl⟩ := Γ
  intro H locs ls hP hS hl
  exact lv_icmp_lt hx hb hd ht (fun h => kt (ite_t h hf) H locs ls hP hS hl) (fun h => kf (ite_f h hf) H locs ls hP hS hl)
theorem g_if_lt (Γ : IsG Y G own cc nL R) {x : Int32} {off : Int} {tgt : Nat} {ρ : Type} {A B : Option ρ} {r : ρ} {inst : Decidable (x < 0)} (hd : decode cc pc = .ok (.ifCond .lt off, 3))  (ht : (pc : Int) + off = (tgt : Int)) (hf : @ite _ (x < 0) inst A B = some r) (kt : A = some r → G tgt lv st μ) (kf : B = some r → G (pc + 3) lv st μ) : G pc lv (.int x :: st) μ := by
  obtain ⟨p, e, s, m, args, below, meth, c, cells, slots, Z, A, rfl, hx, hb, hml, hown, hts, hK, hQ, hA, hXO, hX, hcl, hsl⟩ := Γ
  intro H locs ls hP hS hl
  exact lv_if_lt hx hb hd ht (fun h => kt (ite_t h hf) H locs ls hP hS hl) (fun h => kf (ite_f h hf) H locs ls hP hS hl)
theorem g_icmp_ge (Γ : IsG Y G own cc nL R) {x y : Int32} {off : Int} {tgt : Nat} {ρ : Type} {A B : Option ρ} {r : ρ} {inst : Decidable (y ≤ x)} (hd : decode cc pc = .ok (.if_icmp .ge off, 3))  (ht : (pc : Int) + off = (tgt : Int)) (hf : @ite _ (y ≤ x) inst A B = some r) (kt : A = some r → G tgt lv st μ) (kf : B = some r → G (pc + 3) lv st μ) : G pc lv (.int y :: .int x :: st) μ := by
  obtain ⟨p, e, s, m, args, below, meth, c, cells, slots, Z, A, rfl, hx, hb, hml, hown, hts, hK, hQ, hA, hXO, hX, hcl, hsl⟩ := Γ
  intro H locs ls hP hS hl
  exact lv_icmp_ge hx hb hd ht (fun h => kt (ite_t h hf) H locs ls hP hS hl) (fun h => kf (ite_f h hf) H locs ls hP hS hl)
theorem g_if_ge (Γ : IsG Y G own cc nL R) {x : Int32} {off : Int} {tgt : Nat} {ρ : Type} {A B : Option ρ} {r : ρ} {inst : Decidable (0 ≤ x)} (hd : decode cc pc = .ok (.ifCond .ge off, 3))  (ht : (pc : Int) + off = (tgt : Int)) (hf : @ite _ (0 ≤ x) inst A B = some r) (kt : A = some r → G tgt lv st μ) (kf : B = some r → G (pc + 3) lv st μ) : G pc lv (.int x :: st) μ := by
  obtain ⟨p, e, s, m, args, below, meth, c, cells, slots, Z, A, rfl, hx, hb, hml, hown, hts, hK, hQ, hA, hXO, hX, hcl, hsl⟩ := Γ
  intro H locs ls hP hS hl
  exact lv_if_ge hx hb hd ht (fun h => kt (ite_t h hf) H locs ls hP hS hl) (fun h => kf (ite_f h hf) H locs ls hP hS hl)
theorem g_icmp_gt (Γ : IsG Y G own cc nL R) {x y : Int32} {off : Int} {tgt : Nat} {ρ : Type} {A B : Option ρ} {r : ρ} {inst : Decidable (y < x)} (hd : decode cc pc = .ok (.if_icmp .gt off, 3))  (ht : (pc : Int) + off = (tgt : Int)) (hf : @ite _ (y < x) inst A B = some r) (kt : A = some r → G tgt lv st μ) (kf : B = some r → G (pc + 3) lv st μ) : G pc lv (.int y :: .int x :: st) μ := by
  obtain ⟨p, e, s, m, args, below, meth, c, cells, slots, Z, A, rfl, hx, hb, hml, hown, hts, hK, hQ, hA, hXO, hX, hcl, hsl⟩ := Γ
  intro H locs ls hP hS hl
  exact lv_icmp_gt hx hb hd ht (fun h => kt (ite_t h hf) H locs ls hP hS hl) (fun h => kf (ite_f h hf) H locs ls hP hS hl)
theorem g_if_gt (Γ : IsG Y G own cc nL R) {x : Int32} {off : Int} {tgt : Nat} {ρ : Type} {A B : Option ρ} {r : ρ} {inst : Decidable (0 < x)} (hd : decode cc pc = .ok (.ifCond .gt off, 3))  (ht : (pc : Int) + off = (tgt : Int)) (hf : @ite _ (0 < x) inst A B = some r) (kt : A = some r → G tgt lv st μ) (kf : B = some r → G (pc + 3) lv st μ) : G pc lv (.int x :: st) μ := by
  obtain ⟨p, e, s, m, args, below, meth, c, cells, slots, Z, A, rfl, hx, hb, hml, hown, hts, hK, hQ, hA, hXO, hX, hcl, hsl⟩ := Γ
  intro H locs ls hP hS hl
  exact lv_if_gt hx hb hd ht (fun h => kt (ite_t h hf) H locs ls hP hS hl) (fun h => kf (ite_f h hf) H locs ls hP hS hl)
theorem g_icmp_le (Γ : IsG Y G own cc nL R) {x y : Int32} {off : Int} {tgt : Nat} {ρ : Type} {A B : Option ρ} {r : ρ} {inst : Decidable (x ≤ y)} (hd : decode cc pc = .ok (.if_icmp .le off, 3))  (ht : (pc : Int) + off = (tgt : Int)) (hf : @ite _ (x ≤ y) inst A B = some r) (kt : A = some r → G tgt lv st μ) (kf : B = some r → G (pc + 3) lv st μ) : G pc lv (.int y :: .int x :: st) μ := by
  obtain ⟨p, e, s, m, args, below, meth, c, cells, slots, Z, A, rfl, hx, hb, hml, hown, hts, hK, hQ, hA, hXO, hX, hcl, hsl⟩ := Γ
  intro H locs ls hP hS hl
  exact lv_icmp_le hx hb hd ht (fun h => kt (ite_t h hf) H locs ls hP hS hl) (fun h => kf (ite_f h hf) H locs ls hP hS hl)
theorem g_if_le (Γ : IsG Y G own cc nL R) {x : Int32} {off : Int} {tgt : Nat} {ρ : Type} {A B : Option ρ} {r : ρ} {inst : Decidable (x ≤ 0)} (hd : decode cc pc = .ok (.ifCond .le off, 3))  (ht : (pc : Int) + off = (tgt : Int)) (hf : @ite _ (x ≤ 0) inst A B = some r) (kt : A = some r → G tgt lv st μ) (kf : B = some r → G (pc + 3) lv st μ) : G pc lv (.int x :: st) μ := by
  obtain ⟨p, e, s, m, args, below, meth, c, cells, slots, Z, A, rfl, hx, hb, hml, hown, hts, hK, hQ, hA, hXO, hX, hcl, hsl⟩ := Γ
  intro H locs ls hP hS hl
  exact lv_if_le hx hb hd ht (fun h => kt (ite_t h hf) H locs ls hP hS hl) (fun h => kf (ite_f h hf) H locs ls hP hS hl)
theorem g_goto (Γ : IsG Y G own cc nL R) {off : Int} {tgt : Nat} (hd : decode cc pc = .ok (.goto off, 3))  (ht : (pc : Int) + off = (tgt : Int)) (kk : G tgt lv st μ) : G pc lv st μ := by
  obtain ⟨p, e, s, m, args, below, meth, c, cells, slots, Z, A, rfl, hx, hb, hml, hown, hts, hK, hQ, hA, hXO, hX, hcl, hsl⟩ := Γ
  intro H locs ls hP hS hl
  exact lv_goto hx hb hd ht (kk H locs ls hP hS hl)
theorem g_icmp_eq_t (Γ : IsG Y G own cc nL R) {x y : Int32} {off : Int} {tgt : Nat} (hd : decode cc pc = .ok (.if_icmp .eq off, 3))  (ht : (pc : Int) + off = (tgt : Int)) (hc : x = y) (kk : G tgt lv st μ) : G pc lv (.int y :: .int x :: st) μ := by
  obtain ⟨p, e, s, m, args, below, meth, c, cells, slots, Z, A, rfl, hx, hb, hml, hown, hts, hK, hQ, hA, hXO, hX, hcl, hsl⟩ := Γ
  intro H locs ls hP hS hl
  exact lv_icmp_eq hx hb hd ht (fun _ => kk H locs ls hP hS hl) (fun h => absurd hc h)
theorem g_icmp_eq_f (Γ : IsG Y G own cc nL R) {x y : Int32} {off : Int} {tgt : Nat} (hd : decode cc pc = .ok (.if_icmp .eq off, 3))  (ht : (pc : Int) + off = (tgt : Int)) (hc : ¬ x = y) (kk : G (pc + 3) lv st μ) : G pc lv (.int y :: .int x :: st) μ := by
  obtain ⟨p, e, s, m, args, below, meth, c, cells, slots, Z, A, rfl, hx, hb, hml, hown, hts, hK, hQ, hA, hXO, hX, hcl, hsl⟩ := Γ
  intro H locs ls hP hS hl
  exact lv_icmp_eq hx hb hd ht (fun h => absurd h hc) (fun _ => kk H locs ls hP hS hl)
theorem g_if_eq_t (Γ : IsG Y G own cc nL R) {x : Int32} {off : Int} {tgt : Nat} (hd : decode cc pc = .ok (.ifCond .eq off, 3))  (ht : (pc : Int) + off = (tgt : Int)) (hc : x = 0) (kk : G tgt lv st μ) : G pc lv (.int x :: st) μ := by
  obtain ⟨p, e, s, m, args, below, meth, c, cells, slots, Z, A, rfl, hx, hb, hml, hown, hts, hK, hQ, hA, hXO, hX, hcl, hsl⟩ := Γ
  intro H locs ls hP hS hl
  exact lv_if_eq hx hb hd ht (fun _ => kk H locs ls hP hS hl) (fun h => absurd hc h)
theorem g_if_eq_f (Γ : IsG Y G own cc nL R) {x : Int32} {off : Int} {tgt : Nat} (hd : decode cc pc = .ok (.ifCond .eq off, 3))  (ht : (pc : Int) + off = (tgt : Int)) (hc : ¬ x = 0) (kk : G (pc + 3) lv st μ) : G pc lv (.int x :: st) μ := by
  obtain ⟨p, e, s, m, args, below, meth, c, cells, slots, Z, A, rfl, hx, hb, hml, hown, hts, hK, hQ, hA, hXO, hX, hcl, hsl⟩ := Γ
  intro H locs ls hP hS hl
  exact lv_if_eq hx hb hd ht (fun h => absurd h hc) (fun _ => kk H locs ls hP hS hl)
theorem g_icmp_ne_t (Γ : IsG Y G own cc nL R) {x y : Int32} {off : Int} {tgt : Nat} (hd : decode cc pc = .ok (.if_icmp .ne off, 3))  (ht : (pc : Int) + off = (tgt : Int)) (hc : ¬ x = y) (kk : G tgt lv st μ) : G pc lv (.int y :: .int x :: st) μ := by
  obtain ⟨p, e, s, m, args, below, meth, c, cells, slots, Z, A, rfl, hx, hb, hml, hown, hts, hK, hQ, hA, hXO, hX, hcl, hsl⟩ := Γ
  intro H locs ls hP hS hl
  exact lv_icmp_ne hx hb hd ht (fun _ => kk H locs ls hP hS hl) (fun h => absurd h hc)
theorem g_icmp_ne_f (Γ : IsG Y G own cc nL R) {x y : Int32} {off : Int} {tgt : Nat} (hd : decode cc pc = .ok (.if_icmp .ne off, 3))  (ht : (pc : Int) + off = (tgt : Int)) (hc : x = y) (kk : G (pc + 3) lv st μ) : G pc lv (.int y :: .int x :: st) μ := by
  obtain ⟨p, e, s, m, args, below, meth, c, cells, slots, Z, A, rfl, hx, hb, hml, hown, hts, hK, hQ, hA, hXO, hX, hcl, hsl⟩ := Γ
  intro H locs ls hP hS hl
  exact lv_icmp_ne hx hb hd ht (fun h => absurd hc h) (fun _ => kk H locs ls hP hS hl)
theorem g_if_ne_t (Γ : IsG Y G own cc nL R) {x : Int32} {off : Int} {tgt : Nat} (hd : decode cc pc = .ok (.ifCond .ne off, 3))  (ht : (pc : Int) + off = (tgt : Int)) (hc : ¬ x = 0) (kk : G tgt lv st μ) : G pc lv (.int x :: st) μ := by
  obtain ⟨p, e, s, m, args, below, meth, c, cells, slots, Z, A, rfl, hx, hb, hml, hown, hts, hK, hQ, hA, hXO, hX, hcl, hsl⟩ := Γ
  intro H locs ls hP hS hl
  exact lv_if_ne hx hb hd ht (fun _ => kk H locs ls hP hS hl) (fun h => absurd h hc)
theorem g_if_ne_f (Γ : IsG Y G own cc nL R) {x : Int32} {off : Int} {tgt : Nat} (hd : decode cc pc = .ok (.ifCond .ne off, 3))  (ht : (pc : Int) + off = (tgt : Int)) (hc : x = 0) (kk : G (pc + 3) lv st μ) : G pc lv (.int x :: st) μ := by
  obtain ⟨p, e, s, m, args, below, meth, c, cells, slots, Z, A, rfl, hx, hb, hml, hown, hts, hK, hQ, hA, hXO, hX, hcl, hsl⟩ := Γ
  intro H locs ls hP hS hl
  exact lv_if_ne hx hb hd ht (fun h => absurd hc h) (fun _ => kk H locs ls hP hS hl)
theorem g_icmp_lt_t (Γ : IsG Y G own cc nL R) {x y : Int32} {off : Int} {tgt : Nat} (hd : decode cc pc = .ok (.if_icmp .lt off, 3))  (ht : (pc : Int) + off = (tgt : Int)) (hc : x < y) (kk : G tgt lv st μ) : G pc lv (.int y :: .int x :: st) μ := by
  obtain ⟨p, e, s, m, args, below, meth, c, cells, slots, Z, A, rfl, hx, hb, hml, hown, hts, hK, hQ, hA, hXO, hX, hcl, hsl⟩ := Γ
  intro H locs ls hP hS hl
  exact lv_icmp_lt hx hb hd ht (fun _ => kk H locs ls hP hS hl) (fun h => absurd hc h)
theorem g_icmp_lt_f (Γ : IsG Y G own cc nL R) {x y : Int32} {off : Int} {tgt : Nat} (hd : decode cc pc = .ok (.if_icmp .lt off, 3))  (ht : (pc : Int) + off = (tgt : Int)) (hc : ¬ x < y) (kk : G (pc + 3) lv st μ) : G pc lv (.int y :: .int x :: st) μ := by
  obtain ⟨p, e, s, m, args, below, meth, c, cells, slots, Z, A, rfl, hx, hb, hml, hown, hts, hK, hQ, hA, hXO, hX, hcl, hsl⟩ := Γ
  intro H locs ls hP hS hl
  exact lv_icmp_lt hx hb hd ht (fun h => absurd h hc) (fun _ => kk H locs ls hP hS hl)
theorem g_if_lt_t (Γ : IsG Y G own cc nL R) {x : Int32} {off : Int} {tgt : Nat} (hd : decode cc pc = .ok (.ifCond .lt off, 3))  (ht : (pc : Int) + off = (tgt : Int)) (hc : x < 0) (kk : G tgt lv st μ) : G pc lv (.int x :: st) μ := by
  obtain ⟨p, e, s, m, args, below, meth, c, cells, slots, Z, A, rfl, hx, hb, hml, hown, hts, hK, hQ, hA, hXO, hX, hcl, hsl⟩ := Γ
  intro H locs ls hP hS hl
  exact lv_if_lt hx hb hd ht (fun _ => kk H locs ls hP hS hl) (fun h => absurd hc h)
theorem g_if_lt_f (Γ : IsG Y G own cc nL R) {x : Int32} {off : Int} {tgt : Nat} (hd : decode cc pc = .ok (.ifCond .lt off, 3))  (ht : (pc : Int) + off = (tgt : Int)) (hc : ¬ x < 0) (kk : G (pc + 3) lv st μ) : G pc lv (.int x :: st) μ := by
  obtain ⟨p, e, s, m, args, below, meth, c, cells, slots, Z, A, rfl, hx, hb, hml, hown, hts, hK, hQ, hA, hXO, hX, hcl, hsl⟩ := Γ
  intro H locs ls hP hS hl
  exact lv_if_lt hx hb hd ht (fun h => absurd h hc) (fun _ => kk H locs ls hP hS hl)
theorem g_icmp_ge_t (Γ : IsG Y G own cc nL R) {x y : Int32} {off : Int} {tgt : Nat} (hd : decode cc pc = .ok (.if_icmp .ge off, 3))  (ht : (pc : Int) + off = (tgt : Int)) (hc : y ≤ x) (kk : G tgt lv st μ) : G pc lv (.int y :: .int x :: st) μ := by
  obtain ⟨p, e, s, m, args, below, meth, c, cells, slots, Z, A, rfl, hx, hb, hml, hown, hts, hK, hQ, hA, hXO, hX, hcl, hsl⟩ := Γ
  intro H locs ls hP hS hl
  exact lv_icmp_ge hx hb hd ht (fun _ => kk H locs ls hP hS hl) (fun h => absurd hc h)
theorem g_icmp_ge_f (Γ : IsG Y G own cc nL R) {x y : Int32} {off : Int} {tgt : Nat} (hd : decode cc pc = .ok (.if_icmp .ge off, 3))  (ht : (pc : Int) + off = (tgt : Int)) (hc : ¬ y ≤ x) (kk : G (pc + 3) lv st μ) : G pc lv (.int y :: .int x :: st) μ := by
  obtain ⟨p, e, s, m, args, below, meth, c, cells, slots, Z, A, rfl, hx, hb, hml, hown, hts, hK, hQ, hA, hXO, hX, hcl, hsl⟩ := Γ
  intro H locs ls hP hS hl
  exact lv_icmp_ge hx hb hd ht (fun h => absurd h hc) (fun _ => kk H locs ls hP hS hl)
theorem g_if_ge_t (Γ : IsG Y G own cc nL R) {x : Int32} {off : Int} {tgt : Nat} (hd : decode cc pc = .ok (.ifCond .ge off, 3))  (ht : (pc : Int) + off = (tgt : Int)) (hc : 0 ≤ x) (kk : G tgt lv st μ) : G pc lv (.int x :: st) μ := by
  obtain ⟨p, e, s, m, args, below, meth, c, cells, slots, Z, A, rfl, hx, hb, hml, hown, hts, hK, hQ, hA, hXO, hX, hcl, hsl⟩ := Γ
  intro H locs ls hP hS hl
  exact lv_if_ge hx hb hd ht (fun _ => kk H locs ls hP hS hl) (fun h => absurd hc h)
theorem g_if_ge_f (Γ : IsG Y G own cc nL R) {x : Int32} {off : Int} {tgt : Nat} (hd : decode cc pc = .ok (.ifCond .ge off, 3))  (ht : (pc : Int) + off = (tgt : Int)) (hc : ¬ 0 ≤ x) (kk : G (pc + 3) lv st μ) : G pc lv (.int x :: st) μ := by
  obtain ⟨p, e, s, m, args, below, meth, c, cells, slots, Z, A, rfl, hx, hb, hml, hown, hts, hK, hQ, hA, hXO, hX, hcl, hsl⟩ := Γ
  intro H locs ls hP hS hl
  exact lv_if_ge hx hb hd ht (fun h => absurd h hc) (fun _ => kk H locs ls hP hS hl)
theorem g_icmp_gt_t (Γ : IsG Y G own cc nL R) {x y : Int32} {off : Int} {tgt : Nat} (hd : decode cc pc = .ok (.if_icmp .gt off, 3))  (ht : (pc : Int) + off = (tgt : Int)) (hc : y < x) (kk : G tgt lv st μ) : G pc lv (.int y :: .int x :: st) μ := by
  obtain ⟨p, e, s, m, args, below, meth, c, cells, slots, Z, A, rfl, hx, hb, hml, hown, hts, hK, hQ, hA, hXO, hX, hcl, hsl⟩ := Γ
  intro H locs ls hP hS hl
  exact lv_icmp_gt hx hb hd ht (fun _ => kk H locs ls hP hS hl) (fun h => absurd hc h)
theorem g_icmp_gt_f (Γ : IsG Y G own cc nL R) {x y : Int32} {off : Int} {tgt : Nat} (hd : decode cc pc = .ok (.if_icmp .gt off, 3))  (ht : (pc : Int) + off = (tgt : Int)) (hc : ¬ y < x) (kk : G (pc + 3) lv st μ) : G pc lv (.int y :: .int x :: st) μ := by
  obtain ⟨p, e, s, m, args, below, meth, c, cells, slots, Z, A, rfl, hx, hb, hml, hown, hts, hK, hQ, hA, hXO, hX, hcl, hsl⟩ := Γ
  intro H locs ls hP hS hl
  exact lv_icmp_gt hx hb hd ht (fun h => absurd h hc) (fun _ => kk H locs ls hP hS hl)
theorem g_if_gt_t (Γ : IsG Y G own cc nL R) {x : Int32} {off : Int} {tgt : Nat} (hd : decode cc pc = .ok (.ifCond .gt off, 3))  (ht : (pc : Int) + off = (tgt : Int)) (hc : 0 < x) (kk : G tgt lv st μ) : G pc lv (.int x :: st) μ := by
  obtain ⟨p, e, s, m, args, below, meth, c, cells, slots, Z, A, rfl, hx, hb, hml, hown, hts, hK, hQ, hA, hXO, hX, hcl, hsl⟩ := Γ
  intro H locs ls hP hS hl
  exact lv_if_gt hx hb hd ht (fun _ => kk H locs ls hP hS hl) (fun h => absurd hc h)
theorem g_if_gt_f (Γ : IsG Y G own cc nL R) {x : Int32} {off : Int} {tgt : Nat} (hd : decode cc pc = .ok (.ifCond .gt off, 3))  (ht : (pc : Int) + off = (tgt : Int)) (hc : ¬ 0 < x) (kk : G (pc + 3) lv st μ) : G pc lv (.int x :: st) μ := by
  obtain ⟨p, e, s, m, args, below, meth, c, cells, slots, Z, A, rfl, hx, hb, hml, hown, hts, hK, hQ, hA, hXO, hX, hcl, hsl⟩ := Γ
  intro H locs ls hP hS hl
  exact lv_if_gt hx hb hd ht (fun h => absurd h hc) (fun _ => kk H locs ls hP hS hl)
theorem g_icmp_le_t (Γ : IsG Y G own cc nL R) {x y : Int32} {off : Int} {tgt : Nat} (hd : decode cc pc = .ok (.if_icmp .le off, 3))  (ht : (pc : Int) + off = (tgt : Int)) (hc : x ≤ y) (kk : G tgt lv st μ) : G pc lv (.int y :: .int x :: st) μ := by
  obtain ⟨p, e, s, m, args, below, meth, c, cells, slots, Z, A, rfl, hx, hb, hml, hown, hts, hK, hQ, hA, hXO, hX, hcl, hsl⟩ := Γ
  intro H locs ls hP hS hl
  exact lv_icmp_le hx hb hd ht (fun _ => kk H locs ls hP hS hl) (fun h => absurd hc h)
theorem g_icmp_le_f (Γ : IsG Y G own cc nL R) {x y : Int32} {off : Int} {tgt : Nat} (hd : decode cc pc = .ok (.if_icmp .le off, 3))  (ht : (pc : Int) + off = (tgt : Int)) (hc : ¬ x ≤ y) (kk : G (pc + 3) lv st μ) : G pc lv (.int y :: .int x :: st) μ := by
  obtain ⟨p, e, s, m, args, below, meth, c, cells, slots, Z, A, rfl, hx, hb, hml, hown, hts, hK, hQ, hA, hXO, hX, hcl, hsl⟩ := Γ
  intro H locs ls hP hS hl
  exact lv_icmp_le hx hb hd ht (fun h => absurd h hc) (fun _ => kk H locs ls hP hS hl)
theorem g_if_le_t (Γ : IsG Y G own cc nL R) {x : Int32} {off : Int} {tgt : Nat} (hd : decode cc pc = .ok (.ifCond .le off, 3))  (ht : (pc : Int) + off = (tgt : Int)) (hc : x ≤ 0) (kk : G tgt lv st μ) : G pc lv (.int x :: st) μ := by
  obtain ⟨p, e, s, m, args, below, meth, c, cells, slots, Z, A, rfl, hx, hb, hml, hown, hts, hK, hQ, hA, hXO, hX, hcl, hsl⟩ := Γ
  intro H locs ls hP hS hl
  exact lv_if_le hx hb hd ht (fun _ => kk H locs ls hP hS hl) (fun h => absurd hc h)
theorem g_if_le_f (Γ : IsG Y G own cc nL R) {x : Int32} {off : Int} {tgt : Nat} (hd : decode cc pc = .ok (.ifCond .le off, 3))  (ht : (pc : Int) + off = (tgt : Int)) (hc : ¬ x ≤ 0) (kk : G (pc + 3) lv st μ) : G pc lv (.int x :: st) μ := by
  obtain ⟨p, e, s, m, args, below, meth, c, cells, slots, Z, A, rfl, hx, hb, hml, hown, hts, hK, hQ, hA, hXO, hX, hcl, hsl⟩ := Γ
  intro H locs ls hP hS hl
  exact lv_if_le hx hb hd ht (fun h => absurd h hc) (fun _ => kk H locs ls hP hS hl)
theorem g_table (Γ : IsG Y G own cc nL R) {dflt lo hi : Int} {offs : Array Int} {len : Nat} {x : Int32} (hd : decode cc pc = .ok (.tableswitch dflt lo hi offs, len))  (kd : (x.toInt < lo ∨ hi < x.toInt) → ∀ tgt : Nat, (pc : Int) + dflt = (tgt : Int) → G tgt lv st μ) (kk : ∀ (off : Int) (tgt : Nat), ¬ x.toInt < lo → ¬ hi < x.toInt → offs[(x.toInt - lo).toNat]? = some off → (pc : Int) + off = (tgt : Int) → G tgt lv st μ) (tg : Nat) (ht : (pc : Int) + dflt = (tg : Int)) (hof : ∀ i : Nat, i < offs.size → ∃ (off : Int) (tgt : Nat), offs[i]? = some off ∧ (pc : Int) + off = (tgt : Int)) (hsz : offs.size = (hi - lo + 1).toNat) : G pc lv (.int x :: st) μ := by
  obtain ⟨p, e, s, m, args, below, meth, c, cells, slots, Z, A, rfl, hx, hb, hml, hown, hts, hK, hQ, hA, hXO, hX, hcl, hsl⟩ := Γ
  intro H locs ls hP hS hl
  by_cases h1 : x.toInt < lo
  · exact lv_tableOut hx hb hd (Or.inl h1) ht (kd (Or.inl h1) tg ht H locs ls hP hS hl)
  · by_cases h2 : hi < x.toInt
    · exact lv_tableOut hx hb hd (Or.inr h2) ht (kd (Or.inr h2) tg ht H locs ls hP hS hl)
    · obtain ⟨off, tgt, e1, e2⟩ := hof (x.toInt - lo).toNat (by omega)
      exact lv_tableIn hx hb hd h1 h2 e1 e2 (kk off tgt h1 h2 e1 e2 H locs ls hP hS hl)
theorem g_tableIn (Γ : IsG Y G own cc nL R) {dflt lo hi : Int} {offs : Array Int} {len : Nat} {x : Int32} {off : Int} {tgt : Nat} (hd : decode cc pc = .ok (.tableswitch dflt lo hi offs, len))  (h1 : ¬ x.toInt < lo) (h2 : ¬ hi < x.toInt) (ho : offs[(x.toInt - lo).toNat]? = some off) (ht : (pc : Int) + off = (tgt : Int)) (kk : G tgt lv st μ) : G pc lv (.int x :: st) μ := by
  obtain ⟨p, e, s, m, args, below, meth, c, cells, slots, Z, A, rfl, hx, hb, hml, hown, hts, hK, hQ, hA, hXO, hX, hcl, hsl⟩ := Γ
  intro H locs ls hP hS hl
  exact lv_tableIn hx hb hd h1 h2 ho ht (kk H locs ls hP hS hl)
theorem g_tableOut (Γ : IsG Y G own cc nL R) {dflt lo hi : Int} {offs : Array Int} {len : Nat} {x : Int32} {tgt : Nat} (hd : decode cc pc = .ok (.tableswitch dflt lo hi offs, len))  (h : x.toInt < lo ∨ hi < x.toInt) (ht : (pc : Int) + dflt = (tgt : Int)) (kk : G tgt lv st μ) : G pc lv (.int x :: st) μ := by
  obtain ⟨p, e, s, m, args, below, meth, c, cells, slots, Z, A, rfl, hx, hb, hml, hown, hts, hK, hQ, hA, hXO, hX, hcl, hsl⟩ := Γ
  intro H locs ls hP hS hl
  exact lv_tableOut hx hb hd h ht (kk H locs ls hP hS hl)
theorem g_lookup (Γ : IsG Y G own cc nL R) {dflt : Int} {ps : Array (Int × Int)} {len : Nat} {x : Int32} {off : Int} {tgt : Nat} (hd : decode cc pc = .ok (.lookupswitch dflt ps, len))  (hp : (ps.toList.zip (ps.toList.drop 1)).all (fun (a, next) => a.1 < next.1) = true) (ho : Op.lookupswitch.offset ps.toList dflt x.toInt = off) (ht : (pc : Int) + off = (tgt : Int)) (kk : G tgt lv st μ) : G pc lv (.int x :: st) μ := by
  obtain ⟨p, e, s, m, args, below, meth, c, cells, slots, Z, A, rfl, hx, hb, hml, hown, hts, hK, hQ, hA, hXO, hX, hcl, hsl⟩ := Γ
  intro H locs ls hP hS hl
  exact lv_lookup hx hb hd hp ho ht (kk H locs ls hP hS hl)
theorem g_sub (Γ : IsG Y G own cc nL R) (ks : List Nat)   (hlv : lv_pick lv ks = lv') (kk : G pc lv' st μ) : G pc lv st μ := by
  obtain ⟨p, e, s, m, args, below, meth, c, cells, slots, Z, A, rfl, hx, hb, hml, hown, hts, hK, hQ, hA, hXO, hX, hcl, hsl⟩ := Γ
  intro H locs ls hP hS hl
  exact kk H locs ls hP hS (lv_sub hl ks hlv)
theorem g_get (Γ : IsG Y G own cc nL R) {i ci k index : Nat} {fs : (Nat → Int32) → List Value} {v : Value} (hd : decode cc pc = .ok (.getfield index, 3))  (hO : Obj Y i ci fs) (hF : FR own index ci k) (hv : (fs (μ i))[k]? = some v) (kk : G (pc + 3) lv (v :: st) μ) : G pc lv (.ref (sq Y i) :: st) μ := by
  obtain ⟨p, e, s, m, args, below, meth, c, cells, slots, Z, A, rfl, hx, hb, hml, hown, hts, hK, hQ, hA, hXO, hX, hcl, hsl⟩ := Γ
  intro H locs ls hP hS hl
  obtain ⟨C, T, N, f1, f2, f3, f4⟩ := hF
  exact va_get (ref := (T k).1) hx hb hts f3 hown hK hP i (by rw [wld_get hO.1, hO.2]) f1 k f2 (hts _ f4) (fun _ h => h) hv hd (kk H locs ls hP hS hl)
theorem g_put (Γ : IsG Y G own cc nL R) {i ci k index : Nat} {fs : (Nat → Int32) → List Value} {x : Int32} (hd : decode cc pc = .ok (.putfield index, 3))  (hO : Obj Y i ci fs) (hF : FW own index ci k .int) (hl0 : k < (fs (μ i)).length) (hs : (fs (μ i)).set k (.int x) = fs (upd (μ i) k x)) (kk : G (pc + 3) lv (st) (mset μ i k x)) : G pc lv (.int x :: .ref (sq Y i) :: st) μ := by
  obtain ⟨p, e, s, m, args, below, meth, c, cells, slots, Z, A, rfl, hx, hb, hml, hown, hts, hK, hQ, hA, hXO, hX, hcl, hsl⟩ := Γ
  intro H locs ls hP hS hl
  obtain ⟨C, T, N, ty0, f1, f2, f3, f4, f5, f6, f7, f8⟩ := hF
  refine va_put (ref := (T k).1) hx hb hts f3 ty0 f5 f6 hown hK hP (wld_D hQ μ) hS i (by rw [wld_get hO.1, hO.2]) f1 k f2 (hts _ f4) (fun _ h => h) f7 f8 rfl rfl hl0 hd (fun H1 locs1 hP1 _ hS1 => kk H1 locs1 ls ?_ hS1 hl)
  rw [hs, ← hO.2, wld_set hO.1] at hP1
  exact hP1
theorem g_putz (Γ : IsG Y G own cc nL R) {i ci k index : Nat} {fs : (Nat → Int32) → List Value} {x : Int32} (hd : decode cc pc = .ok (.putfield index, 3))  (hO : Obj Y i ci fs) (hF : FW own index ci k .boolean) (hx01 : x = 0 ∨ x = 1) (hl0 : k < (fs (μ i)).length) (hs : (fs (μ i)).set k (.int x) = fs (upd (μ i) k x)) (kk : G (pc + 3) lv (st) (mset μ i k x)) : G pc lv (.int x :: .ref (sq Y i) :: st) μ := by
  obtain ⟨p, e, s, m, args, below, meth, c, cells, slots, Z, A, rfl, hx, hb, hml, hown, hts, hK, hQ, hA, hXO, hX, hcl, hsl⟩ := Γ
  intro H locs ls hP hS hl
  obtain ⟨C, T, N, ty0, f1, f2, f3, f4, f5, f6, f7, f8⟩ := hF
  refine va_put (ref := (T k).1) hx hb hts f3 ty0 f5 f6 hown hK hP (wld_D hQ μ) hS i (by rw [wld_get hO.1, hO.2]) f1 k f2 (hts _ f4) (fun _ h => h) f7 f8 (by rcases hx01 with rfl | rfl <;> rfl) (by rcases hx01 with rfl | rfl <;> rfl) hl0 hd (fun H1 locs1 hP1 _ hS1 => kk H1 locs1 ls ?_ hS1 hl)
  rw [hs, ← hO.2, wld_set hO.1] at hP1
  exact hP1
theorem g_iald (Γ : IsG Y G own cc nL R) {ρ : Type} {i n : Nat} {x : Int32} {F : Int32 → Option ρ} {r : ρ} (hd : decode cc pc = .ok (.iaload, 1))  (hO : IArr Y i n) (hf : bn1 (ldM (μ i) n x) F = some r) (kk : ∀ v, F v = some r → G (pc + 1) lv (.int v :: st) μ) : G pc lv (.int x :: .ref (sq Y i) :: st) μ := by
  obtain ⟨p, e, s, m, args, below, meth, c, cells, slots, Z, A, rfl, hx, hb, hml, hown, hts, hK, hQ, hA, hXO, hX, hcl, hsl⟩ := Γ
  intro H locs ls hP hS hl
  obtain ⟨v, h1, h2⟩ := bn1_i hf
  unfold ldM at h1
  obtain ⟨o1, cA, t0, o2, o3⟩ := hO
  by_cases hin : x < 0 ∨ n ≤ x.toNatClampNeg
  · rw [if_pos hin] at h1; cases h1
  · rw [if_neg hin] at h1; cases h1
    exact va_iald hx hb hK hP i t0 (by rw [wld_get o1, o3]) o2 (show vp_in x n from hin) hd (kk _ h2 H locs ls hP hS hl)
theorem g_iast (Γ : IsG Y G own cc nL R) {ρ : Type} {i n : Nat} {x v : Int32} {F : Mem → Option ρ} {r : ρ} (hd : decode cc pc = .ok (.iastore, 1))  (hO : IArr Y i n) (hf : bn1 (stM μ i n x v) F = some r) (kk : ∀ m1, F m1 = some r → G (pc + 1) lv st m1) : G pc lv (.int v :: .int x :: .ref (sq Y i) :: st) μ := by
  obtain ⟨p, e, s, m, args, below, meth, c, cells, slots, Z, A, rfl, hx, hb, hml, hown, hts, hK, hQ, hA, hXO, hX, hcl, hsl⟩ := Γ
  intro H locs ls hP hS hl
  obtain ⟨m1, h1, h2⟩ := bn1_i hf
  unfold stM at h1
  obtain ⟨o1, cA, t0, o2, o3⟩ := hO
  by_cases hin : x < 0 ∨ n ≤ x.toNatClampNeg
  · rw [if_pos hin] at h1; cases h1
  · rw [if_neg hin] at h1; cases h1
    refine va_iast hx hb hK hP (wld_D hQ μ) hS i t0 (by rw [wld_get o1, o3]) o2 (show vp_in x n from hin) hd (fun H1 locs1 hP1 _ hS1 => kk _ h2 H1 locs1 ls ?_ hS1 hl)
    rw [← o3, wld_set o1] at hP1
    exact hP1
theorem g_alen (Γ : IsG Y G own cc nL R) {i n : Nat} {v : Int32} (hd : decode cc pc = .ok (.arraylength, 1))  (hO : IArr Y i n) (hv : Int32.ofNat n = v) (kk : G (pc + 1) lv (.int v :: st) μ) : G pc lv (.ref (sq Y i) :: st) μ := by
  obtain ⟨p, e, s, m, args, below, meth, c, cells, slots, Z, A, rfl, hx, hb, hml, hown, hts, hK, hQ, hA, hXO, hX, hcl, hsl⟩ := Γ
  intro H locs ls hP hS hl
  obtain ⟨o1, cA, t0, o2, o3⟩ := hO
  exact va_alen hx hb hK hP i t0 (by rw [wld_get o1, o3]) o2 hv hd (kk H locs ls hP hS hl)
theorem g_aald (Γ : IsG Y G own cc nL R) {ρ : Type} {i n : Nat} {g : Nat → Nat} {x : Int32} {F : Nat → Option ρ} {r : ρ} (hd : decode cc pc = .ok (.aaload, 1))  (hO : RArr Y i n g) (hf : bn1 (rdM n x) F = some r) (kk : ∀ j, j < n → F j = some r → G (pc + 1) lv (.ref (sq Y (g j)) :: st) μ) : G pc lv (.int x :: .ref (sq Y i) :: st) μ := by
  obtain ⟨p, e, s, m, args, below, meth, c, cells, slots, Z, A, rfl, hx, hb, hml, hown, hts, hK, hQ, hA, hXO, hX, hcl, hsl⟩ := Γ
  intro H locs ls hP hS hl
  obtain ⟨j, h1, h2⟩ := bn1_i hf
  unfold rdM at h1
  obtain ⟨o1, cA, t0, C, o2, o3⟩ := hO
  by_cases hin : x < 0 ∨ n ≤ x.toNatClampNeg
  · rw [if_pos hin] at h1; cases h1
  · rw [if_neg hin] at h1; cases h1
    exact va_aldq (f := fun k => some (sq Y (g k))) hx hb hK hP i t0 (by rw [wld_get o1, o3]) o2 (show vp_in x n from hin) hd (kk _ (Nat.not_le.mp fun z => hin (Or.inr z)) h2 H locs ls hP hS hl)
theorem g_copy (Γ : IsG Y G own cc nL R) {ρ : Type} {index i ni j nj : Nat} {sp dp n : Int32} {F : Mem → Option ρ} {r : ρ} (hd : decode cc pc = .ok (.invokestatic index, 3))  (hi : IArr Y i ni) (hj : IArr Y j nj) (h1 : Cond.methodLink own index arraycopyName ∈ WL) (h2 : Cond.native arraycopyName ∈ WL) (h3 : Cond.static arraycopyName ∈ WL) (h4 : Cond.initialized "java/lang/System" ∈ WL) (hfr : 1 ≤ R.frames) (hlo : (st.map fun v => v.category).sum + (nativeFrameWords "java/lang/System" "arraycopy" 5 + 11) ≤ R.locals) (hf : bn1 (cpM μ i ni sp j nj dp n) F = some r) (kk : ∀ m1, F m1 = some r → G (pc + 3) lv st m1) : G pc lv (.int n :: .int dp :: .ref (sq Y j) :: .int sp :: .ref (sq Y i) :: st) μ := by
  obtain ⟨p, e, s, m, args, below, meth, c, cells, slots, Z, A, rfl, hx, hb, hml, hown, hts, hK, hQ, hA, hXO, hX, hcl, hsl⟩ := Γ
  intro H locs ls hP hS hl
  obtain ⟨m1, g1, g2⟩ := bn1_i hf
  unfold cpM at g1
  obtain ⟨o1, cA, t0, o2, o3⟩ := hi
  obtain ⟨p1, cB, t1, p2, p3⟩ := hj
  by_cases hin : sp < 0 ∨ dp < 0 ∨ n < 0 ∨ ni < sp.toNatClampNeg + n.toNatClampNeg ∨ nj < dp.toNatClampNeg + n.toNatClampNeg
  · rw [if_pos hin] at g1; cases g1
  · rw [if_neg hin] at g1; cases g1
    simp only [not_or, Nat.not_lt] at hin
    obtain ⟨a1, a2, a3, a4, a5⟩ := hin
    refine va_copyi hx hb (hml.trans hl.1.symm) hown (hts _ h1) (hts _ h2) (hts _ h3) (hts _ h4) hK hP (wld_D hQ μ) hS i j t0 t1 (by rw [wld_get o1, o3]) (by rw [wld_get p1, p3]) o2 p2 rfl a1 a2 a3 a4 a5 (fun _ _ => rfl) hfr hlo hd (fun H1 locs1 hP1 _ hS1 => kk _ g2 H1 locs1 ls ?_ hS1 hl)
    rw [← p3, wld_set p1] at hP1
    exact hP1
theorem g_max (Γ : IsG Y G own cc nL R) {x y : Int32} {index : Nat} (hd : decode cc pc = .ok (.invokestatic index, 3))  (h1 : Cond.methodLink own index Lib.Math.max.name ∈ WL) (h2 : Cond.static Lib.Math.max.name ∈ WL) (h3 : Cond.initialized "java/lang/Math" ∈ WL) (h4 : Cond.code Lib.Math.max.name Lib.Math.max.code 2 (some .int) ∈ WL) (hfr : 1 ≤ R.frames) (hlo : (st.map fun v => v.category).sum + 13 ≤ R.locals) (kk : G (pc + 3) lv (.int (if x < y then y else x) :: st) μ) : G pc lv (.int y :: .int x :: st) μ := by
  obtain ⟨p, e, s, m, args, below, meth, c, cells, slots, Z, A, rfl, hx, hb, hml, hown, hts, hK, hQ, hA, hXO, hX, hcl, hsl⟩ := Γ
  intro H locs ls hP hS hl
  exact va_mmax hx hb (hml.trans hl.1.symm) hown (hts _ h1) (hts _ h2) (hts _ h3) (hts _ h4) hfr hlo hcl hsl hd (kk H locs ls hP hS hl)
theorem g_min (Γ : IsG Y G own cc nL R) {x y : Int32} {index : Nat} (hd : decode cc pc = .ok (.invokestatic index, 3))  (h1 : Cond.methodLink own index Lib.Math.min.name ∈ WL) (h2 : Cond.static Lib.Math.min.name ∈ WL) (h3 : Cond.initialized "java/lang/Math" ∈ WL) (h4 : Cond.code Lib.Math.min.name Lib.Math.min.code 2 (some .int) ∈ WL) (hfr : 1 ≤ R.frames) (hlo : (st.map fun v => v.category).sum + 13 ≤ R.locals) (kk : G (pc + 3) lv (.int (if y < x then y else x) :: st) μ) : G pc lv (.int y :: .int x :: st) μ := by
  obtain ⟨p, e, s, m, args, below, meth, c, cells, slots, Z, A, rfl, hx, hb, hml, hown, hts, hK, hQ, hA, hXO, hX, hcl, hsl⟩ := Γ
  intro H locs ls hP hS hl
  exact va_mmin hx hb (hml.trans hl.1.symm) hown (hts _ h1) (hts _ h2) (hts _ h3) (hts _ h4) hfr hlo hcl hsl hd (kk H locs ls hP hS hl)
theorem g_abs (Γ : IsG Y G own cc nL R) {x : Int32} {index : Nat} (hd : decode cc pc = .ok (.invokestatic index, 3))  (h1 : Cond.methodLink own index Lib.Math.abs.name ∈ WL) (h2 : Cond.static Lib.Math.abs.name ∈ WL) (h3 : Cond.initialized "java/lang/Math" ∈ WL) (h4 : Cond.code Lib.Math.abs.name Lib.Math.abs.code 1 (some .int) ∈ WL) (hfr : 1 ≤ R.frames) (hlo : (st.map fun v => v.category).sum + 13 ≤ R.locals) (kk : G (pc + 3) lv (.int (if 0 ≤ x then x else 0 - x) :: st) μ) : G pc lv (.int x :: st) μ := by
  obtain ⟨p, e, s, m, args, below, meth, c, cells, slots, Z, A, rfl, hx, hb, hml, hown, hts, hK, hQ, hA, hXO, hX, hcl, hsl⟩ := Γ
  intro H locs ls hP hS hl
  exact va_mabs hx hb (hml.trans hl.1.symm) hown (hts _ h1) (hts _ h2) (hts _ h3) (hts _ h4) hfr hlo hcl hsl hd (kk H locs ls hP hS hl)
theorem g_callV (Γ : IsG Y G own cc nL R) {y : MethodName} {cc' : ByteArray} {n' d k index i ci : Nat} {ret : Option FieldType} {fs : (Nat → Int32) → List Value} {as st0 : List Value} {o : Option Value} {m1 : Mem} {T : u_T} {N : Nat} (hd : decode cc pc = .ok (.invokevirtual index, 3)) (hM : KC Y y cc' n' ret d (.ref (sq Y i) :: as) μ o m1) (hO : Obj Y i ci fs) (hcl : vwCl[ci]? = some (y.cls, T, N)) (hI : MI y cc' n' ret k) (hV : MV y) (hw : Cond.methodLink own index y ∈ WL) (hk : as.length = k) (hR : d + 1 ≤ R.frames ∧ 8 + (n' + 11) + 40 * d ≤ R.locals) (hst : st0 = as.reverse ++ .ref (sq Y i) :: st) (hcat : (st.map fun v => v.category).sum ≤ 8) (kk : G (pc + 3) lv (o.toList ++ st) m1) : G pc lv st0 μ := by
  obtain ⟨p, e, s, m, args, below, meth, c, cells, slots, Z, A, rfl, hx, hb, hml, hown, hts, hK, hQ, hA, hXO, hX, hce, hsl⟩ := Γ
  intro H locs ls hP hS hl
  obtain ⟨i1, i2, i3, i4, i5⟩ := hI
  refine w_back (va_runV (As := as) (rest := st) ⟨hx, hb, hml, hown, hts⟩ (hM H.size) (cwV k hts (fun w h => ?_) rfl rfl rfl ⟨rfl, i3, i4, i5⟩ hR) ⟨pre_blind, va_recv hK hP hcl (by rw [wld_get hO.1, hO.2]), pre_at hP hS hK hQ hA hXO hX⟩ rfl hk hl.1 hst (lv_room hcat) hd ⟨hce, hsl⟩) hS (FA_sub hQ hA hS.1) (fun H1 locs1 hP1 hS1 => kk H1 locs1 ls hP1 hS1 hl)
  unfold wsV at h
  rcases List.mem_append.mp h with h | h
  · simp only [List.mem_cons, List.not_mem_nil, or_false] at h
    rcases h with rfl | rfl | rfl | rfl
    · exact wl_gi hw
    · exact wl_gi hV.1
    · exact wl_gi hV.2
    · exact wl_gi i2
  · exact wl_code i1 w h
theorem g_callS (Γ : IsG Y G own cc nL R) {y : MethodName} {cc' : ByteArray} {n' d k index : Nat} {ret : Option FieldType} {as st0 : List Value} {o : Option Value} {m1 : Mem} (hd : decode cc pc = .ok (.invokestatic index, 3)) (hM : KC Y y cc' n' ret d as μ o m1) (hI : MI y cc' n' ret k) (hV : MS y) (hw : Cond.methodLink own index y ∈ WL) (hk : as.length = k) (hR : d + 1 ≤ R.frames ∧ 8 + (n' + 11) + 40 * d ≤ R.locals) (hst : st0 = as.reverse ++ st) (hcat : (st.map fun v => v.category).sum ≤ 8) (kk : G (pc + 3) lv (o.toList ++ st) m1) : G pc lv st0 μ := by
  obtain ⟨p, e, s, m, args, below, meth, c, cells, slots, Z, A, rfl, hx, hb, hml, hown, hts, hK, hQ, hA, hXO, hX, hce, hsl⟩ := Γ
  intro H locs ls hP hS hl
  obtain ⟨i1, i2, i3, i4, i5⟩ := hI
  refine w_back (va_runS (As := as) (rest := st) ⟨hx, hb, hml, hown, hts⟩ (hM H.size) (va_cwS k hts (fun w h => ?_) rfl rfl rfl ⟨i3, i4, i5⟩ hR) ⟨pre_blind, pre_at hP hS hK hQ hA hXO hX⟩ rfl hk hl.1 hst (lv_room hcat) hd ⟨hce, hsl⟩) hS (FA_sub hQ hA hS.1) (fun H1 locs1 hP1 hS1 => kk H1 locs1 ls hP1 hS1 hl)
  unfold va_wsS at h
  rcases List.mem_append.mp h with h | h
  · simp only [List.mem_cons, List.not_mem_nil, or_false] at h
    rcases h with rfl | rfl | rfl
    · exact wl_gi hw
    · exact wl_gi hV
    · exact wl_gi i2
  · exact wl_code i1 w h
end GR
theorem KC.entry {Y : SYS} {y : MethodName} {cc : ByteArray} {n d : Nat} {ret : Option FieldType} {as : List Value} {μ m : Mem} {o : Option Value} {own : String} {lv : List (Nat × Value)} (hpl : plainName y.cls = true) (hown : y.cls = own) (hlen : (lg_sl as).length ≤ n) (hlv : lv_args 0 as = lv)
    (body : ∀ G : GT, IsG Y G own cc n (RM d) → (∀ x, o = some (.int x) → ret = some .int → RetI G cc x m) → (∀ x, o = some (.int x) → ret = some .boolean → RetZ G cc x m) → (o = none → ret = none → RetV G cc m) → (∀ a C, o = some (.ref a) → ret = some (.object C) → RetA G cc a m) → G 0 lv [] μ) : KC Y y cc n ret d as μ o m := by
  intro sz
  refine Met.ofW (cc := cc) (maxL := n) (ret := ret) hpl rfl ?_
  intro p e s m0 args below meth c s₁ B hml hv
  obtain ⟨rfl, hsz, hP, hK, hQ, hXO, hX⟩ := hv
  have hx := B.exec
  have hb := B.bytes
  have hr := B.returns
  have hts := atoms_spec (ws := Cond.code y cc n ret :: WL) B.pre
  have hown1 : s.vm.findClass own = some m0.cls := by rw [← hown]; exact findClass_of_methodNamed B.named
  have hlocks := B.notSynchronized
  subst hsz
  have hQF : QI Y (FA Y s.heap.size) := hQ.of (fun i hi => Or.inl ⟨i, hi, rfl⟩)
  have hl := lv_entry as (n := n) hlen
  rw [hlv] at hl
  rw [lg_entry_eq]
  have hS0 : va_S (FA Y s.heap.size) s.heap s.heap [] := va_S.rf
  refine body (fun pc lv st μ => ∀ (H : Heap) (locs : List Loc) (ls : Array Slot), va_P (sD Y) vwCl (wld Y μ) H → va_S (FA Y s.heap.size) s.heap H locs → lv_has ls n lv → W p (sL Y) e (RM d) s m0 as.toArray below meth c H locs 0 0 (MQ below (QG Y o m s.heap.size) as.toArray s 0 0 (FA Y s.heap.size)) (F0 m0 pc ls st))
    ⟨p, e, s, m0, as.toArray, below, meth, c, 0, 0, _, FA Y s.heap.size, rfl, hx, hb, hml, hown1, fun w h => hts w (List.mem_cons_of_mem _ h), hK, hQF, fun a h => Or.inr h, hXO, hX, Nat.le_refl 0, Nat.le_refl 0⟩ ?_ ?_ ?_ ?_ s.heap [] _ hP hS0 hl
  · intro x ho hrt pc lv hd H locs ls hP hS hl
    exact W.iret hx hb (hr.trans hrt) (fun t ht hW => ⟨⟨by rw [ho], by rw [ht]; exact hP⟩, hS.F ht⟩) hS.2.2 hd
  · intro x ho hrt pc lv hd h01 H locs ls hP hS hl
    exact W.zret hx hb (hr.trans hrt) (by rcases h01 with rfl | rfl <;> rfl) (fun t ht hW => ⟨⟨by rw [ho], by rw [ht]; exact hP⟩, hS.F ht⟩) hS.2.2 hd
  · intro ho hrt pc lv hd H locs ls hP hS hl
    exact W.vret hx hb (hr.trans hrt) (fun t ht hW => ⟨⟨by rw [ho], by rw [ht]; exact hP⟩, hS.F ht⟩) hS.2.2 hd
  · intro a C ho hrt pc lv hd H locs ls hP hS hl
    exact W.aret hx hb (hr.trans hrt) (Or.inl ⟨C, rfl⟩) (Or.inr ⟨a, rfl⟩) (fun t ht hW => ⟨⟨by rw [ho], by rw [ht]; exact hP⟩, hS.F ht⟩) hS.2.2 hd
theorem KC.I {Y : SYS} {y : MethodName} {cc : ByteArray} {n d : Nat} {as : List Value} {μ m : Mem} {x : Int32} (own : String) (lv : List (Nat × Value)) (hpl : plainName y.cls = true) (hown : y.cls = own) (hlen : (lg_sl as).length ≤ n) (hlv : lv_args 0 as = lv) (body : ∀ G : GT, IsG Y G own cc n (RM d) → RetI G cc x m → G 0 lv [] μ) : KC Y y cc n (some .int) d as μ (some (.int x)) m :=
  KC.entry hpl hown hlen hlv (fun G Γ h1 _ _ _ => body G Γ (h1 x rfl rfl))
theorem KC.Z {Y : SYS} {y : MethodName} {cc : ByteArray} {n d : Nat} {as : List Value} {μ m : Mem} {x : Int32} (own : String) (lv : List (Nat × Value)) (hpl : plainName y.cls = true) (hown : y.cls = own) (hlen : (lg_sl as).length ≤ n) (hlv : lv_args 0 as = lv) (body : ∀ G : GT, IsG Y G own cc n (RM d) → RetZ G cc x m → G 0 lv [] μ) : KC Y y cc n (some .boolean) d as μ (some (.int x)) m :=
  KC.entry hpl hown hlen hlv (fun G Γ _ h1 _ _ => body G Γ (h1 x rfl rfl))
theorem KC.V {Y : SYS} {y : MethodName} {cc : ByteArray} {n d : Nat} {as : List Value} {μ m : Mem} (own : String) (lv : List (Nat × Value)) (hpl : plainName y.cls = true) (hown : y.cls = own) (hlen : (lg_sl as).length ≤ n) (hlv : lv_args 0 as = lv) (body : ∀ G : GT, IsG Y G own cc n (RM d) → RetV G cc m → G 0 lv [] μ) : KC Y y cc n none d as μ none m :=
  KC.entry hpl hown hlen hlv (fun G Γ _ _ h1 _ => body G Γ (h1 rfl rfl))
theorem KC.A {Y : SYS} {y : MethodName} {cc : ByteArray} {n d : Nat} {as : List Value} {μ m : Mem} {a : Nat} {C : String} (own : String) (lv : List (Nat × Value)) (hpl : plainName y.cls = true) (hown : y.cls = own) (hlen : (lg_sl as).length ≤ n) (hlv : lv_args 0 as = lv) (body : ∀ G : GT, IsG Y G own cc n (RM d) → RetA G cc a m → G 0 lv [] μ) : KC Y y cc n (some (.object C)) d as μ (some (.ref a)) m :=
  KC.entry hpl hown hlen hlv (fun G Γ _ _ _ h1 => body G Γ (h1 a C rfl rfl))
-- leaves
theorem rI {G : GT} {cc : ByteArray} {x v : Int32} {m μ : Mem} {pc : Nat} {lv : List (Nat × Value)} (h : RetI G cc x m) (hd : decode cc pc = .ok (.ireturn, 1)) (hf : some (v, μ) = some (x, m)) : G pc lv [.int v] μ := by
  cases hf
  exact h pc lv hd
theorem rIr {G : GT} {cc : ByteArray} {x v : Int32} {μ : Mem} {pc : Nat} {lv : List (Nat × Value)} (h : RetI G cc x μ) (hd : decode cc pc = .ok (.ireturn, 1)) (hf : some v = some x) : G pc lv [.int v] μ := by
  cases hf
  exact h pc lv hd
theorem rZ {G : GT} {cc : ByteArray} {x v : Int32} {m μ : Mem} {pc : Nat} {lv : List (Nat × Value)} (h : RetZ G cc x m) (hd : decode cc pc = .ok (.ireturn, 1)) (hf : bn1 (zM v) (fun v => some (v, μ)) = some (x, m)) : G pc lv [.int v] μ := by
  unfold zM at hf
  by_cases h01 : v = 0 ∨ v = 1
  · rw [if_pos h01] at hf
    cases hf
    exact h pc lv hd h01
  · rw [if_neg h01] at hf; cases hf
theorem rZr {G : GT} {cc : ByteArray} {x v : Int32} {μ : Mem} {pc : Nat} {lv : List (Nat × Value)} (h : RetZ G cc x μ) (hd : decode cc pc = .ok (.ireturn, 1)) (hf : zM v = some x) : G pc lv [.int v] μ := by
  unfold zM at hf
  by_cases h01 : v = 0 ∨ v = 1
  · rw [if_pos h01] at hf
    cases hf
    exact h pc lv hd h01
  · rw [if_neg h01] at hf; cases hf
theorem rZk {G : GT} {cc : ByteArray} {x v : Int32} {m μ : Mem} {pc : Nat} {lv : List (Nat × Value)} (h : RetZ G cc x m) (hd : decode cc pc = .ok (.ireturn, 1)) (h01 : v = 0 ∨ v = 1) (hf : some (v, μ) = some (x, m)) : G pc lv [.int v] μ := by
  cases hf
  exact h pc lv hd h01
theorem rZkr {G : GT} {cc : ByteArray} {x v : Int32} {μ : Mem} {pc : Nat} {lv : List (Nat × Value)} (h : RetZ G cc x μ) (hd : decode cc pc = .ok (.ireturn, 1)) (h01 : v = 0 ∨ v = 1) (hf : some v = some x) : G pc lv [.int v] μ := by
  cases hf
  exact h pc lv hd h01
theorem rV {G : GT} {cc : ByteArray} {m μ : Mem} {pc : Nat} {lv : List (Nat × Value)} (h : RetV G cc m) (hd : decode cc pc = .ok (.return_, 1)) (hf : some μ = some m) : G pc lv [] μ := by
  cases hf
  exact h pc lv hd
end
