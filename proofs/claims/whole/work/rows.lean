section
-- ===== PART A: goes FIRST, ahead of the names: the tables' words, and 'selects' of the private methods out of them =====
/-- a private method of a class that the tables say can be made, by its rows of tables_1 -/
def lw_okq (q : MethodName × Nat) : Prop := (q.1.cls ≠ "java/lang/invoke/MethodHandle" ∧ q.1.cls ≠ "java/lang/invoke/VarHandle") ∧ Cond.instantiable q.1.cls q.2 ∈ tables_1 ∧ Cond.privateMethod q.1 ∈ tables_1 ∧ Cond.instanceMethod q.1 ∈ tables_1
theorem lw_p0 : lw_okq (⟨"HalfFriends", "isNobody", "(I)Z"⟩, 11) := ⟨⟨by decide +kernel, by decide +kernel⟩, List.mem_of_getElem? (i := 19) (by decide +kernel), List.mem_of_getElem? (i := 278) (by decide +kernel), List.mem_of_getElem? (i := 279) (by decide +kernel)⟩
theorem lw_p1 : lw_okq (⟨"HalfFriends", "setMind", "(II)I"⟩, 11) := ⟨⟨by decide +kernel, by decide +kernel⟩, List.mem_of_getElem? (i := 19) (by decide +kernel), List.mem_of_getElem? (i := 365) (by decide +kernel), List.mem_of_getElem? (i := 366) (by decide +kernel)⟩
theorem lw_p2 : lw_okq (⟨"HalfFriends", "setPrice", "(II)I"⟩, 11) := ⟨⟨by decide +kernel, by decide +kernel⟩, List.mem_of_getElem? (i := 19) (by decide +kernel), List.mem_of_getElem? (i := 373) (by decide +kernel), List.mem_of_getElem? (i := 374) (by decide +kernel)⟩
theorem lw_p3 : lw_okq (⟨"HalfFriends", "setPurse", "(II)I"⟩, 11) := ⟨⟨by decide +kernel, by decide +kernel⟩, List.mem_of_getElem? (i := 19) (by decide +kernel), List.mem_of_getElem? (i := 377) (by decide +kernel), List.mem_of_getElem? (i := 378) (by decide +kernel)⟩
theorem lw_p4 : lw_okq (⟨"HalfFriends$Town", "payDues", "()V"⟩, 15) := ⟨⟨by decide +kernel, by decide +kernel⟩, List.mem_of_getElem? (i := 54) (by decide +kernel), List.mem_of_getElem? (i := 493) (by decide +kernel), List.mem_of_getElem? (i := 494) (by decide +kernel)⟩
theorem lw_p5 : lw_okq (⟨"HalfFriends$Town", "pay", "(II)V"⟩, 15) := ⟨⟨by decide +kernel, by decide +kernel⟩, List.mem_of_getElem? (i := 54) (by decide +kernel), List.mem_of_getElem? (i := 498) (by decide +kernel), List.mem_of_getElem? (i := 499) (by decide +kernel)⟩
theorem lw_p6 : lw_okq (⟨"HalfFriends$Town", "lookedAt", "()I"⟩, 15) := ⟨⟨by decide +kernel, by decide +kernel⟩, List.mem_of_getElem? (i := 54) (by decide +kernel), List.mem_of_getElem? (i := 502) (by decide +kernel), List.mem_of_getElem? (i := 503) (by decide +kernel)⟩
theorem lw_p7 : lw_okq (⟨"HalfFriends$Town", "worst", "()I"⟩, 15) := ⟨⟨by decide +kernel, by decide +kernel⟩, List.mem_of_getElem? (i := 54) (by decide +kernel), List.mem_of_getElem? (i := 506) (by decide +kernel), List.mem_of_getElem? (i := 507) (by decide +kernel)⟩
theorem lw_p8 : lw_okq (⟨"HalfFriends$Town", "persuade", "(I)V"⟩, 15) := ⟨⟨by decide +kernel, by decide +kernel⟩, List.mem_of_getElem? (i := 54) (by decide +kernel), List.mem_of_getElem? (i := 511) (by decide +kernel), List.mem_of_getElem? (i := 512) (by decide +kernel)⟩
theorem lw_p9 : lw_okq (⟨"HalfFriends$Town", "offOfAll", "(II)I"⟩, 15) := ⟨⟨by decide +kernel, by decide +kernel⟩, List.mem_of_getElem? (i := 54) (by decide +kernel), List.mem_of_getElem? (i := 515) (by decide +kernel), List.mem_of_getElem? (i := 516) (by decide +kernel)⟩
theorem lw_p10 : lw_okq (⟨"HalfFriends$Town", "haveWhim", "()V"⟩, 15) := ⟨⟨by decide +kernel, by decide +kernel⟩, List.mem_of_getElem? (i := 54) (by decide +kernel), List.mem_of_getElem? (i := 521) (by decide +kernel), List.mem_of_getElem? (i := 522) (by decide +kernel)⟩
theorem lw_p11 : lw_okq (⟨"HalfFriends", "differences", "(LHalfFriends$Row;I)I"⟩, 11) := ⟨⟨by decide +kernel, by decide +kernel⟩, List.mem_of_getElem? (i := 19) (by decide +kernel), List.mem_of_getElem? (i := 556) (by decide +kernel), List.mem_of_getElem? (i := 557) (by decide +kernel)⟩
theorem lw_p12 : lw_okq (⟨"HalfFriends$Reader", "next", "()V"⟩, 9) := ⟨⟨by decide +kernel, by decide +kernel⟩, List.mem_of_getElem? (i := 137) (by decide +kernel), List.mem_of_getElem? (i := 601) (by decide +kernel), List.mem_of_getElem? (i := 602) (by decide +kernel)⟩
theorem lw_p13 : lw_okq (⟨"HalfFriends$Reader", "sortAt", "(I)I"⟩, 9) := ⟨⟨by decide +kernel, by decide +kernel⟩, List.mem_of_getElem? (i := 137) (by decide +kernel), List.mem_of_getElem? (i := 605) (by decide +kernel), List.mem_of_getElem? (i := 606) (by decide +kernel)⟩
theorem lw_p14 : lw_okq (⟨"HalfFriends$Reader", "keyHere", "()I"⟩, 9) := ⟨⟨by decide +kernel, by decide +kernel⟩, List.mem_of_getElem? (i := 137) (by decide +kernel), List.mem_of_getElem? (i := 609) (by decide +kernel), List.mem_of_getElem? (i := 610) (by decide +kernel)⟩
theorem lw_p15 : lw_okq (⟨"HalfFriends$Reader", "isHere", "(Ljava/lang/String;)Z"⟩, 9) := ⟨⟨by decide +kernel, by decide +kernel⟩, List.mem_of_getElem? (i := 137) (by decide +kernel), List.mem_of_getElem? (i := 614) (by decide +kernel), List.mem_of_getElem? (i := 615) (by decide +kernel)⟩
def lw_privs_1 : List (MethodName × Nat) := [(⟨"HalfFriends", "isNobody", "(I)Z"⟩, 11), (⟨"HalfFriends", "setMind", "(II)I"⟩, 11), (⟨"HalfFriends", "setPrice", "(II)I"⟩, 11), (⟨"HalfFriends", "setPurse", "(II)I"⟩, 11), (⟨"HalfFriends$Town", "payDues", "()V"⟩, 15), (⟨"HalfFriends$Town", "pay", "(II)V"⟩, 15), (⟨"HalfFriends$Town", "lookedAt", "()I"⟩, 15), (⟨"HalfFriends$Town", "worst", "()I"⟩, 15), (⟨"HalfFriends$Town", "persuade", "(I)V"⟩, 15), (⟨"HalfFriends$Town", "offOfAll", "(II)I"⟩, 15), (⟨"HalfFriends$Town", "haveWhim", "()V"⟩, 15), (⟨"HalfFriends", "differences", "(LHalfFriends$Row;I)I"⟩, 11), (⟨"HalfFriends$Reader", "next", "()V"⟩, 9), (⟨"HalfFriends$Reader", "sortAt", "(I)I"⟩, 9), (⟨"HalfFriends$Reader", "keyHere", "()I"⟩, 9), (⟨"HalfFriends$Reader", "isHere", "(Ljava/lang/String;)Z"⟩, 9)]
theorem lw_r1 : ∀ q ∈ lw_privs_1, lw_okq q := List.forall_mem_cons.mpr ⟨lw_p0, List.forall_mem_cons.mpr ⟨lw_p1, List.forall_mem_cons.mpr ⟨lw_p2, List.forall_mem_cons.mpr ⟨lw_p3, List.forall_mem_cons.mpr ⟨lw_p4, List.forall_mem_cons.mpr ⟨lw_p5, List.forall_mem_cons.mpr ⟨lw_p6, List.forall_mem_cons.mpr ⟨lw_p7, List.forall_mem_cons.mpr ⟨lw_p8, List.forall_mem_cons.mpr ⟨lw_p9, List.forall_mem_cons.mpr ⟨lw_p10, List.forall_mem_cons.mpr ⟨lw_p11, List.forall_mem_cons.mpr ⟨lw_p12, List.forall_mem_cons.mpr ⟨lw_p13, List.forall_mem_cons.mpr ⟨lw_p14, List.forall_mem_cons.mpr ⟨lw_p15, fun _ h => absurd h List.not_mem_nil⟩⟩⟩⟩⟩⟩⟩⟩⟩⟩⟩⟩⟩⟩⟩⟩
theorem lw_p16 : lw_okq (⟨"HalfFriends$Reader", "level", "(III)Z"⟩, 9) := ⟨⟨by decide +kernel, by decide +kernel⟩, List.mem_of_getElem? (i := 137) (by decide +kernel), List.mem_of_getElem? (i := 668) (by decide +kernel), List.mem_of_getElem? (i := 669) (by decide +kernel)⟩
theorem lw_p17 : lw_okq (⟨"HalfFriends$Reader", "piece", "(II)Z"⟩, 9) := ⟨⟨by decide +kernel, by decide +kernel⟩, List.mem_of_getElem? (i := 137) (by decide +kernel), List.mem_of_getElem? (i := 672) (by decide +kernel), List.mem_of_getElem? (i := 673) (by decide +kernel)⟩
theorem lw_p18 : lw_okq (⟨"HalfFriends$Reader", "negated", "(II)Z"⟩, 9) := ⟨⟨by decide +kernel, by decide +kernel⟩, List.mem_of_getElem? (i := 137) (by decide +kernel), List.mem_of_getElem? (i := 676) (by decide +kernel), List.mem_of_getElem? (i := 677) (by decide +kernel)⟩
theorem lw_p19 : lw_okq (⟨"HalfFriends$Reader", "put", "(I)V"⟩, 9) := ⟨⟨by decide +kernel, by decide +kernel⟩, List.mem_of_getElem? (i := 137) (by decide +kernel), List.mem_of_getElem? (i := 680) (by decide +kernel), List.mem_of_getElem? (i := 681) (by decide +kernel)⟩
theorem lw_p20 : lw_okq (⟨"HalfFriends$Reader", "enclosed", "(II)Z"⟩, 9) := ⟨⟨by decide +kernel, by decide +kernel⟩, List.mem_of_getElem? (i := 137) (by decide +kernel), List.mem_of_getElem? (i := 684) (by decide +kernel), List.mem_of_getElem? (i := 685) (by decide +kernel)⟩
theorem lw_p21 : lw_okq (⟨"HalfFriends$Reader", "number", "()Z"⟩, 9) := ⟨⟨by decide +kernel, by decide +kernel⟩, List.mem_of_getElem? (i := 137) (by decide +kernel), List.mem_of_getElem? (i := 688) (by decide +kernel), List.mem_of_getElem? (i := 689) (by decide +kernel)⟩
theorem lw_p22 : lw_okq (⟨"HalfFriends$Reader", "name", "()Z"⟩, 9) := ⟨⟨by decide +kernel, by decide +kernel⟩, List.mem_of_getElem? (i := 137) (by decide +kernel), List.mem_of_getElem? (i := 692) (by decide +kernel), List.mem_of_getElem? (i := 693) (by decide +kernel)⟩
theorem lw_p23 : lw_okq (⟨"HalfFriends$Reader", "joinsHere", "(I)Z"⟩, 9) := ⟨⟨by decide +kernel, by decide +kernel⟩, List.mem_of_getElem? (i := 137) (by decide +kernel), List.mem_of_getElem? (i := 754) (by decide +kernel), List.mem_of_getElem? (i := 755) (by decide +kernel)⟩
theorem lw_p24 : lw_okq (⟨"HalfFriendsModel", "comes", "(III)V"⟩, 31) := ⟨⟨by decide +kernel, by decide +kernel⟩, List.mem_of_getElem? (i := 865) (by decide +kernel), List.mem_of_getElem? (i := 976) (by decide +kernel), List.mem_of_getElem? (i := 977) (by decide +kernel)⟩
theorem lw_p25 : lw_okq (⟨"HalfFriendsModel", "sets", "(III)V"⟩, 31) := ⟨⟨by decide +kernel, by decide +kernel⟩, List.mem_of_getElem? (i := 865) (by decide +kernel), List.mem_of_getElem? (i := 980) (by decide +kernel), List.mem_of_getElem? (i := 981) (by decide +kernel)⟩
theorem lw_p26 : lw_okq (⟨"HalfFriendsModel", "isOne", "(I)Z"⟩, 31) := ⟨⟨by decide +kernel, by decide +kernel⟩, List.mem_of_getElem? (i := 865) (by decide +kernel), List.mem_of_getElem? (i := 988) (by decide +kernel), List.mem_of_getElem? (i := 989) (by decide +kernel)⟩
theorem lw_p27 : lw_okq (⟨"HalfFriendsModel", "of", "(II)I"⟩, 31) := ⟨⟨by decide +kernel, by decide +kernel⟩, List.mem_of_getElem? (i := 865) (by decide +kernel), List.mem_of_getElem? (i := 992) (by decide +kernel), List.mem_of_getElem? (i := 993) (by decide +kernel)⟩
theorem lw_p28 : lw_okq (⟨"HalfFriendsModel", "offOf", "(I)I"⟩, 31) := ⟨⟨by decide +kernel, by decide +kernel⟩, List.mem_of_getElem? (i := 865) (by decide +kernel), List.mem_of_getElem? (i := 996) (by decide +kernel), List.mem_of_getElem? (i := 997) (by decide +kernel)⟩
theorem lw_p29 : lw_okq (⟨"HalfFriendsModel", "forNow", "()I"⟩, 31) := ⟨⟨by decide +kernel, by decide +kernel⟩, List.mem_of_getElem? (i := 865) (by decide +kernel), List.mem_of_getElem? (i := 1000) (by decide +kernel), List.mem_of_getElem? (i := 1001) (by decide +kernel)⟩
theorem lw_p30 : lw_okq (⟨"HalfFriendsModel", "offBy", "(II)I"⟩, 31) := ⟨⟨by decide +kernel, by decide +kernel⟩, List.mem_of_getElem? (i := 865) (by decide +kernel), List.mem_of_getElem? (i := 1004) (by decide +kernel), List.mem_of_getElem? (i := 1005) (by decide +kernel)⟩
theorem lw_p31 : lw_okq (⟨"HalfFriendsModel", "dues", "(I)I"⟩, 31) := ⟨⟨by decide +kernel, by decide +kernel⟩, List.mem_of_getElem? (i := 865) (by decide +kernel), List.mem_of_getElem? (i := 1014) (by decide +kernel), List.mem_of_getElem? (i := 1015) (by decide +kernel)⟩
def lw_privs_2 : List (MethodName × Nat) := [(⟨"HalfFriends$Reader", "level", "(III)Z"⟩, 9), (⟨"HalfFriends$Reader", "piece", "(II)Z"⟩, 9), (⟨"HalfFriends$Reader", "negated", "(II)Z"⟩, 9), (⟨"HalfFriends$Reader", "put", "(I)V"⟩, 9), (⟨"HalfFriends$Reader", "enclosed", "(II)Z"⟩, 9), (⟨"HalfFriends$Reader", "number", "()Z"⟩, 9), (⟨"HalfFriends$Reader", "name", "()Z"⟩, 9), (⟨"HalfFriends$Reader", "joinsHere", "(I)Z"⟩, 9), (⟨"HalfFriendsModel", "comes", "(III)V"⟩, 31), (⟨"HalfFriendsModel", "sets", "(III)V"⟩, 31), (⟨"HalfFriendsModel", "isOne", "(I)Z"⟩, 31), (⟨"HalfFriendsModel", "of", "(II)I"⟩, 31), (⟨"HalfFriendsModel", "offOf", "(I)I"⟩, 31), (⟨"HalfFriendsModel", "forNow", "()I"⟩, 31), (⟨"HalfFriendsModel", "offBy", "(II)I"⟩, 31), (⟨"HalfFriendsModel", "dues", "(I)I"⟩, 31)]
theorem lw_r2 : ∀ q ∈ lw_privs_2, lw_okq q := List.forall_mem_cons.mpr ⟨lw_p16, List.forall_mem_cons.mpr ⟨lw_p17, List.forall_mem_cons.mpr ⟨lw_p18, List.forall_mem_cons.mpr ⟨lw_p19, List.forall_mem_cons.mpr ⟨lw_p20, List.forall_mem_cons.mpr ⟨lw_p21, List.forall_mem_cons.mpr ⟨lw_p22, List.forall_mem_cons.mpr ⟨lw_p23, List.forall_mem_cons.mpr ⟨lw_p24, List.forall_mem_cons.mpr ⟨lw_p25, List.forall_mem_cons.mpr ⟨lw_p26, List.forall_mem_cons.mpr ⟨lw_p27, List.forall_mem_cons.mpr ⟨lw_p28, List.forall_mem_cons.mpr ⟨lw_p29, List.forall_mem_cons.mpr ⟨lw_p30, List.forall_mem_cons.mpr ⟨lw_p31, fun _ h => absurd h List.not_mem_nil⟩⟩⟩⟩⟩⟩⟩⟩⟩⟩⟩⟩⟩⟩⟩⟩
theorem lw_p32 : lw_okq (⟨"HalfFriendsModel", "counts", "(I)I"⟩, 31) := ⟨⟨by decide +kernel, by decide +kernel⟩, List.mem_of_getElem? (i := 865) (by decide +kernel), List.mem_of_getElem? (i := 1018) (by decide +kernel), List.mem_of_getElem? (i := 1019) (by decide +kernel)⟩
theorem lw_p33 : lw_okq (⟨"HalfFriendsModel", "textAt", "(I)I"⟩, 31) := ⟨⟨by decide +kernel, by decide +kernel⟩, List.mem_of_getElem? (i := 865) (by decide +kernel), List.mem_of_getElem? (i := 1022) (by decide +kernel), List.mem_of_getElem? (i := 1023) (by decide +kernel)⟩
theorem lw_p34 : lw_okq (⟨"HalfFriendsModel", "worked", "(I)I"⟩, 31) := ⟨⟨by decide +kernel, by decide +kernel⟩, List.mem_of_getElem? (i := 865) (by decide +kernel), List.mem_of_getElem? (i := 1026) (by decide +kernel), List.mem_of_getElem? (i := 1027) (by decide +kernel)⟩
theorem lw_p35 : lw_okq (⟨"HalfFriendsModel", "asks", "(I)I"⟩, 31) := ⟨⟨by decide +kernel, by decide +kernel⟩, List.mem_of_getElem? (i := 865) (by decide +kernel), List.mem_of_getElem? (i := 1036) (by decide +kernel), List.mem_of_getElem? (i := 1037) (by decide +kernel)⟩
theorem lw_p36 : lw_okq (⟨"HalfFriendsModel", "worth", "(I)I"⟩, 31) := ⟨⟨by decide +kernel, by decide +kernel⟩, List.mem_of_getElem? (i := 865) (by decide +kernel), List.mem_of_getElem? (i := 1040) (by decide +kernel), List.mem_of_getElem? (i := 1041) (by decide +kernel)⟩
theorem lw_p37 : lw_okq (⟨"HalfFriendsModel", "becomes", "(II)I"⟩, 31) := ⟨⟨by decide +kernel, by decide +kernel⟩, List.mem_of_getElem? (i := 865) (by decide +kernel), List.mem_of_getElem? (i := 1056) (by decide +kernel), List.mem_of_getElem? (i := 1057) (by decide +kernel)⟩
theorem lw_p38 : lw_okq (⟨"HalfFriendsModel", "areFriends", "(II)I"⟩, 31) := ⟨⟨by decide +kernel, by decide +kernel⟩, List.mem_of_getElem? (i := 865) (by decide +kernel), List.mem_of_getElem? (i := 1071) (by decide +kernel), List.mem_of_getElem? (i := 1072) (by decide +kernel)⟩
theorem lw_p39 : lw_okq (⟨"HalfFriendsModel", "joins", "(III)V"⟩, 31) := ⟨⟨by decide +kernel, by decide +kernel⟩, List.mem_of_getElem? (i := 865) (by decide +kernel), List.mem_of_getElem? (i := 1075) (by decide +kernel), List.mem_of_getElem? (i := 1076) (by decide +kernel)⟩
theorem lw_p40 : lw_okq (⟨"HalfFriendsModel", "drawn", "()I"⟩, 31) := ⟨⟨by decide +kernel, by decide +kernel⟩, List.mem_of_getElem? (i := 865) (by decide +kernel), List.mem_of_getElem? (i := 1091) (by decide +kernel), List.mem_of_getElem? (i := 1092) (by decide +kernel)⟩
theorem lw_p41 : lw_okq (⟨"HalfFriendsModel", "allOff", "()I"⟩, 31) := ⟨⟨by decide +kernel, by decide +kernel⟩, List.mem_of_getElem? (i := 865) (by decide +kernel), List.mem_of_getElem? (i := 1104) (by decide +kernel), List.mem_of_getElem? (i := 1105) (by decide +kernel)⟩
theorem lw_p42 : lw_okq (⟨"HalfFriendsModel", "disorder", "(I)I"⟩, 31) := ⟨⟨by decide +kernel, by decide +kernel⟩, List.mem_of_getElem? (i := 865) (by decide +kernel), List.mem_of_getElem? (i := 1108) (by decide +kernel), List.mem_of_getElem? (i := 1109) (by decide +kernel)⟩
theorem lw_p43 : lw_okq (⟨"HalfFriendsModel", "oddOnes", "()I"⟩, 31) := ⟨⟨by decide +kernel, by decide +kernel⟩, List.mem_of_getElem? (i := 865) (by decide +kernel), List.mem_of_getElem? (i := 1112) (by decide +kernel), List.mem_of_getElem? (i := 1113) (by decide +kernel)⟩
theorem lw_p44 : lw_okq (⟨"HalfFriendsModel", "isWay", "(I)Z"⟩, 31) := ⟨⟨by decide +kernel, by decide +kernel⟩, List.mem_of_getElem? (i := 865) (by decide +kernel), List.mem_of_getElem? (i := 1120) (by decide +kernel), List.mem_of_getElem? (i := 1121) (by decide +kernel)⟩
theorem lw_p45 : lw_okq (⟨"HalfFriendsModel", "fixedOnes", "()I"⟩, 31) := ⟨⟨by decide +kernel, by decide +kernel⟩, List.mem_of_getElem? (i := 865) (by decide +kernel), List.mem_of_getElem? (i := 1124) (by decide +kernel), List.mem_of_getElem? (i := 1125) (by decide +kernel)⟩
theorem lw_p46 : lw_okq (⟨"HalfFriendsModel", "cost", "(II)I"⟩, 31) := ⟨⟨by decide +kernel, by decide +kernel⟩, List.mem_of_getElem? (i := 865) (by decide +kernel), List.mem_of_getElem? (i := 1132) (by decide +kernel), List.mem_of_getElem? (i := 1133) (by decide +kernel)⟩
theorem lw_p47 : lw_okq (⟨"HalfFriendsModel", "price", "(I)I"⟩, 31) := ⟨⟨by decide +kernel, by decide +kernel⟩, List.mem_of_getElem? (i := 865) (by decide +kernel), List.mem_of_getElem? (i := 1136) (by decide +kernel), List.mem_of_getElem? (i := 1137) (by decide +kernel)⟩
def lw_privs_3 : List (MethodName × Nat) := [(⟨"HalfFriendsModel", "counts", "(I)I"⟩, 31), (⟨"HalfFriendsModel", "textAt", "(I)I"⟩, 31), (⟨"HalfFriendsModel", "worked", "(I)I"⟩, 31), (⟨"HalfFriendsModel", "asks", "(I)I"⟩, 31), (⟨"HalfFriendsModel", "worth", "(I)I"⟩, 31), (⟨"HalfFriendsModel", "becomes", "(II)I"⟩, 31), (⟨"HalfFriendsModel", "areFriends", "(II)I"⟩, 31), (⟨"HalfFriendsModel", "joins", "(III)V"⟩, 31), (⟨"HalfFriendsModel", "drawn", "()I"⟩, 31), (⟨"HalfFriendsModel", "allOff", "()I"⟩, 31), (⟨"HalfFriendsModel", "disorder", "(I)I"⟩, 31), (⟨"HalfFriendsModel", "oddOnes", "()I"⟩, 31), (⟨"HalfFriendsModel", "isWay", "(I)Z"⟩, 31), (⟨"HalfFriendsModel", "fixedOnes", "()I"⟩, 31), (⟨"HalfFriendsModel", "cost", "(II)I"⟩, 31), (⟨"HalfFriendsModel", "price", "(I)I"⟩, 31)]
theorem lw_r3 : ∀ q ∈ lw_privs_3, lw_okq q := List.forall_mem_cons.mpr ⟨lw_p32, List.forall_mem_cons.mpr ⟨lw_p33, List.forall_mem_cons.mpr ⟨lw_p34, List.forall_mem_cons.mpr ⟨lw_p35, List.forall_mem_cons.mpr ⟨lw_p36, List.forall_mem_cons.mpr ⟨lw_p37, List.forall_mem_cons.mpr ⟨lw_p38, List.forall_mem_cons.mpr ⟨lw_p39, List.forall_mem_cons.mpr ⟨lw_p40, List.forall_mem_cons.mpr ⟨lw_p41, List.forall_mem_cons.mpr ⟨lw_p42, List.forall_mem_cons.mpr ⟨lw_p43, List.forall_mem_cons.mpr ⟨lw_p44, List.forall_mem_cons.mpr ⟨lw_p45, List.forall_mem_cons.mpr ⟨lw_p46, List.forall_mem_cons.mpr ⟨lw_p47, fun _ h => absurd h List.not_mem_nil⟩⟩⟩⟩⟩⟩⟩⟩⟩⟩⟩⟩⟩⟩⟩⟩
theorem lw_p48 : lw_okq (⟨"HalfFriendsModel", "goesOn", "()V"⟩, 31) := ⟨⟨by decide +kernel, by decide +kernel⟩, List.mem_of_getElem? (i := 865) (by decide +kernel), List.mem_of_getElem? (i := 1162) (by decide +kernel), List.mem_of_getElem? (i := 1163) (by decide +kernel)⟩
theorem lw_p49 : lw_okq (⟨"HalfFriendsModel", "pays", "(II)V"⟩, 31) := ⟨⟨by decide +kernel, by decide +kernel⟩, List.mem_of_getElem? (i := 865) (by decide +kernel), List.mem_of_getElem? (i := 1166) (by decide +kernel), List.mem_of_getElem? (i := 1167) (by decide +kernel)⟩
theorem lw_p50 : lw_okq (⟨"HalfFriendsModel", "lookedAt", "()I"⟩, 31) := ⟨⟨by decide +kernel, by decide +kernel⟩, List.mem_of_getElem? (i := 865) (by decide +kernel), List.mem_of_getElem? (i := 1170) (by decide +kernel), List.mem_of_getElem? (i := 1171) (by decide +kernel)⟩
theorem lw_p51 : lw_okq (⟨"HalfFriendsModel", "worst", "()I"⟩, 31) := ⟨⟨by decide +kernel, by decide +kernel⟩, List.mem_of_getElem? (i := 865) (by decide +kernel), List.mem_of_getElem? (i := 1174) (by decide +kernel), List.mem_of_getElem? (i := 1175) (by decide +kernel)⟩
theorem lw_p52 : lw_okq (⟨"HalfFriendsModel", "around", "(II)I"⟩, 31) := ⟨⟨by decide +kernel, by decide +kernel⟩, List.mem_of_getElem? (i := 865) (by decide +kernel), List.mem_of_getElem? (i := 1178) (by decide +kernel), List.mem_of_getElem? (i := 1179) (by decide +kernel)⟩
theorem lw_p53 : lw_okq (⟨"HalfFriendsModel", "changes", "(I)V"⟩, 31) := ⟨⟨by decide +kernel, by decide +kernel⟩, List.mem_of_getElem? (i := 865) (by decide +kernel), List.mem_of_getElem? (i := 1182) (by decide +kernel), List.mem_of_getElem? (i := 1183) (by decide +kernel)⟩
theorem lw_p54 : lw_okq (⟨"HalfFriendsModel", "laysBy", "()V"⟩, 31) := ⟨⟨by decide +kernel, by decide +kernel⟩, List.mem_of_getElem? (i := 865) (by decide +kernel), List.mem_of_getElem? (i := 1190) (by decide +kernel), List.mem_of_getElem? (i := 1191) (by decide +kernel)⟩
theorem lw_p55 : lw_okq (⟨"HalfFriendsModel", "goesOnMany", "(I)V"⟩, 31) := ⟨⟨by decide +kernel, by decide +kernel⟩, List.mem_of_getElem? (i := 865) (by decide +kernel), List.mem_of_getElem? (i := 1194) (by decide +kernel), List.mem_of_getElem? (i := 1195) (by decide +kernel)⟩
theorem lw_p56 : lw_okq (⟨"HalfFriendsModel", "laysBack", "()V"⟩, 31) := ⟨⟨by decide +kernel, by decide +kernel⟩, List.mem_of_getElem? (i := 865) (by decide +kernel), List.mem_of_getElem? (i := 1198) (by decide +kernel), List.mem_of_getElem? (i := 1199) (by decide +kernel)⟩
theorem lw_p57 : lw_okq (⟨"HalfFriendsModel", "parse", "()I"⟩, 31) := ⟨⟨by decide +kernel, by decide +kernel⟩, List.mem_of_getElem? (i := 865) (by decide +kernel), List.mem_of_getElem? (i := 1231) (by decide +kernel), List.mem_of_getElem? (i := 1232) (by decide +kernel)⟩
theorem lw_p58 : lw_okq (⟨"HalfFriendsModel", "nextToken", "()V"⟩, 31) := ⟨⟨by decide +kernel, by decide +kernel⟩, List.mem_of_getElem? (i := 865) (by decide +kernel), List.mem_of_getElem? (i := 1235) (by decide +kernel), List.mem_of_getElem? (i := 1236) (by decide +kernel)⟩
theorem lw_p59 : lw_okq (⟨"HalfFriendsModel", "isLetter", "(I)Z"⟩, 31) := ⟨⟨by decide +kernel, by decide +kernel⟩, List.mem_of_getElem? (i := 865) (by decide +kernel), List.mem_of_getElem? (i := 1239) (by decide +kernel), List.mem_of_getElem? (i := 1240) (by decide +kernel)⟩
theorem lw_p60 : lw_okq (⟨"HalfFriendsModel", "isDigit", "(I)Z"⟩, 31) := ⟨⟨by decide +kernel, by decide +kernel⟩, List.mem_of_getElem? (i := 865) (by decide +kernel), List.mem_of_getElem? (i := 1245) (by decide +kernel), List.mem_of_getElem? (i := 1246) (by decide +kernel)⟩
theorem lw_p61 : lw_okq (⟨"HalfFriendsModel", "key", "()I"⟩, 31) := ⟨⟨by decide +kernel, by decide +kernel⟩, List.mem_of_getElem? (i := 865) (by decide +kernel), List.mem_of_getElem? (i := 1251) (by decide +kernel), List.mem_of_getElem? (i := 1252) (by decide +kernel)⟩
theorem lw_p62 : lw_okq (⟨"HalfFriendsModel", "isWordAt", "(IIII)Z"⟩, 31) := ⟨⟨by decide +kernel, by decide +kernel⟩, List.mem_of_getElem? (i := 865) (by decide +kernel), List.mem_of_getElem? (i := 1255) (by decide +kernel), List.mem_of_getElem? (i := 1256) (by decide +kernel)⟩
theorem lw_p63 : lw_okq (⟨"HalfFriendsModel", "either", "(I)Z"⟩, 31) := ⟨⟨by decide +kernel, by decide +kernel⟩, List.mem_of_getElem? (i := 865) (by decide +kernel), List.mem_of_getElem? (i := 1259) (by decide +kernel), List.mem_of_getElem? (i := 1260) (by decide +kernel)⟩
def lw_privs_4 : List (MethodName × Nat) := [(⟨"HalfFriendsModel", "goesOn", "()V"⟩, 31), (⟨"HalfFriendsModel", "pays", "(II)V"⟩, 31), (⟨"HalfFriendsModel", "lookedAt", "()I"⟩, 31), (⟨"HalfFriendsModel", "worst", "()I"⟩, 31), (⟨"HalfFriendsModel", "around", "(II)I"⟩, 31), (⟨"HalfFriendsModel", "changes", "(I)V"⟩, 31), (⟨"HalfFriendsModel", "laysBy", "()V"⟩, 31), (⟨"HalfFriendsModel", "goesOnMany", "(I)V"⟩, 31), (⟨"HalfFriendsModel", "laysBack", "()V"⟩, 31), (⟨"HalfFriendsModel", "parse", "()I"⟩, 31), (⟨"HalfFriendsModel", "nextToken", "()V"⟩, 31), (⟨"HalfFriendsModel", "isLetter", "(I)Z"⟩, 31), (⟨"HalfFriendsModel", "isDigit", "(I)Z"⟩, 31), (⟨"HalfFriendsModel", "key", "()I"⟩, 31), (⟨"HalfFriendsModel", "isWordAt", "(IIII)Z"⟩, 31), (⟨"HalfFriendsModel", "either", "(I)Z"⟩, 31)]
theorem lw_r4 : ∀ q ∈ lw_privs_4, lw_okq q := List.forall_mem_cons.mpr ⟨lw_p48, List.forall_mem_cons.mpr ⟨lw_p49, List.forall_mem_cons.mpr ⟨lw_p50, List.forall_mem_cons.mpr ⟨lw_p51, List.forall_mem_cons.mpr ⟨lw_p52, List.forall_mem_cons.mpr ⟨lw_p53, List.forall_mem_cons.mpr ⟨lw_p54, List.forall_mem_cons.mpr ⟨lw_p55, List.forall_mem_cons.mpr ⟨lw_p56, List.forall_mem_cons.mpr ⟨lw_p57, List.forall_mem_cons.mpr ⟨lw_p58, List.forall_mem_cons.mpr ⟨lw_p59, List.forall_mem_cons.mpr ⟨lw_p60, List.forall_mem_cons.mpr ⟨lw_p61, List.forall_mem_cons.mpr ⟨lw_p62, List.forall_mem_cons.mpr ⟨lw_p63, fun _ h => absurd h List.not_mem_nil⟩⟩⟩⟩⟩⟩⟩⟩⟩⟩⟩⟩⟩⟩⟩⟩
theorem lw_p64 : lw_okq (⟨"HalfFriendsModel", "both", "(I)Z"⟩, 31) := ⟨⟨by decide +kernel, by decide +kernel⟩, List.mem_of_getElem? (i := 865) (by decide +kernel), List.mem_of_getElem? (i := 1263) (by decide +kernel), List.mem_of_getElem? (i := 1264) (by decide +kernel)⟩
theorem lw_p65 : lw_okq (⟨"HalfFriendsModel", "test", "(I)Z"⟩, 31) := ⟨⟨by decide +kernel, by decide +kernel⟩, List.mem_of_getElem? (i := 865) (by decide +kernel), List.mem_of_getElem? (i := 1267) (by decide +kernel), List.mem_of_getElem? (i := 1268) (by decide +kernel)⟩
theorem lw_p66 : lw_okq (⟨"HalfFriendsModel", "sum", "(I)Z"⟩, 31) := ⟨⟨by decide +kernel, by decide +kernel⟩, List.mem_of_getElem? (i := 865) (by decide +kernel), List.mem_of_getElem? (i := 1271) (by decide +kernel), List.mem_of_getElem? (i := 1272) (by decide +kernel)⟩
theorem lw_p67 : lw_okq (⟨"HalfFriendsModel", "term", "(I)Z"⟩, 31) := ⟨⟨by decide +kernel, by decide +kernel⟩, List.mem_of_getElem? (i := 865) (by decide +kernel), List.mem_of_getElem? (i := 1275) (by decide +kernel), List.mem_of_getElem? (i := 1276) (by decide +kernel)⟩
theorem lw_p68 : lw_okq (⟨"HalfFriendsModel", "part0", "(I)Z"⟩, 31) := ⟨⟨by decide +kernel, by decide +kernel⟩, List.mem_of_getElem? (i := 865) (by decide +kernel), List.mem_of_getElem? (i := 1279) (by decide +kernel), List.mem_of_getElem? (i := 1280) (by decide +kernel)⟩
theorem lw_p69 : lw_okq (⟨"HalfFriendsModel", "step", "(II)V"⟩, 31) := ⟨⟨by decide +kernel, by decide +kernel⟩, List.mem_of_getElem? (i := 865) (by decide +kernel), List.mem_of_getElem? (i := 1283) (by decide +kernel), List.mem_of_getElem? (i := 1284) (by decide +kernel)⟩
theorem lw_p70 : lw_okq (⟨"HalfFriendsModel", "isSign", "(I)Z"⟩, 31) := ⟨⟨by decide +kernel, by decide +kernel⟩, List.mem_of_getElem? (i := 865) (by decide +kernel), List.mem_of_getElem? (i := 1290) (by decide +kernel), List.mem_of_getElem? (i := 1291) (by decide +kernel)⟩
theorem lw_p71 : lw_okq (⟨"HalfFriendsModel", "isText", "(I)Z"⟩, 31) := ⟨⟨by decide +kernel, by decide +kernel⟩, List.mem_of_getElem? (i := 865) (by decide +kernel), List.mem_of_getElem? (i := 1298) (by decide +kernel), List.mem_of_getElem? (i := 1299) (by decide +kernel)⟩
theorem lw_p72 : lw_okq (⟨"HalfFriendsModel", "setAside", "([I[I)V"⟩, 31) := ⟨⟨by decide +kernel, by decide +kernel⟩, List.mem_of_getElem? (i := 865) (by decide +kernel), List.mem_of_getElem? (i := 1371) (by decide +kernel), List.mem_of_getElem? (i := 1372) (by decide +kernel)⟩
def lw_privs_5 : List (MethodName × Nat) := [(⟨"HalfFriendsModel", "both", "(I)Z"⟩, 31), (⟨"HalfFriendsModel", "test", "(I)Z"⟩, 31), (⟨"HalfFriendsModel", "sum", "(I)Z"⟩, 31), (⟨"HalfFriendsModel", "term", "(I)Z"⟩, 31), (⟨"HalfFriendsModel", "part0", "(I)Z"⟩, 31), (⟨"HalfFriendsModel", "step", "(II)V"⟩, 31), (⟨"HalfFriendsModel", "isSign", "(I)Z"⟩, 31), (⟨"HalfFriendsModel", "isText", "(I)Z"⟩, 31), (⟨"HalfFriendsModel", "setAside", "([I[I)V"⟩, 31)]
theorem lw_r5 : ∀ q ∈ lw_privs_5, lw_okq q := List.forall_mem_cons.mpr ⟨lw_p64, List.forall_mem_cons.mpr ⟨lw_p65, List.forall_mem_cons.mpr ⟨lw_p66, List.forall_mem_cons.mpr ⟨lw_p67, List.forall_mem_cons.mpr ⟨lw_p68, List.forall_mem_cons.mpr ⟨lw_p69, List.forall_mem_cons.mpr ⟨lw_p70, List.forall_mem_cons.mpr ⟨lw_p71, List.forall_mem_cons.mpr ⟨lw_p72, fun _ h => absurd h List.not_mem_nil⟩⟩⟩⟩⟩⟩⟩⟩⟩
def lw_privs : List (MethodName × Nat) := lw_privs_1 ++ (lw_privs_2 ++ (lw_privs_3 ++ (lw_privs_4 ++ (lw_privs_5))))
def lw_tbl : List Cond := k2_sels lw_privs ++ tables_1
theorem lw_privs_ok : ∀ q ∈ lw_privs, lw_okq q := by
  show ∀ q ∈ lw_privs_1 ++ (lw_privs_2 ++ (lw_privs_3 ++ (lw_privs_4 ++ (lw_privs_5)))), lw_okq q
  exact List.forall_mem_append.mpr ⟨lw_r1, List.forall_mem_append.mpr ⟨lw_r2, List.forall_mem_append.mpr ⟨lw_r3, List.forall_mem_append.mpr ⟨lw_r4, lw_r5⟩⟩⟩⟩
-- ===== end of PART A; then your names; then what follows =====
end
section
def RX0 : String := "HalfFriends$Book"
def TX0 : u_T := fun k => match k with
  | 0 => ("HalfFriends$Book", "keys", "[I", true)
  | 1 => ("HalfFriends$Book", "leaves", "[I", true)
  | 2 => ("HalfFriends$Book", "lengths", "[I", true)
  | 3 => ("HalfFriends$Book", "steps", "[[I", true)
  | _ => ("HalfFriends$Book", "stack", "[I", true)
def tyX0 : Nat → FieldType := fun k => match k with
  | 0 => .array .int
  | 1 => .array .int
  | 2 => .array .int
  | 3 => .array (.array .int)
  | _ => .array .int
theorem nmX0 : ∀ a, a < 5 → ∀ b, b < 5 → a ≠ b → (TX0 a).2.1 ≠ (TX0 b).2.1 := by decide +kernel
theorem tyX0_ok : ∀ k, k < 5 → parseFieldDescriptor (TX0 k).2.2.1 = some (tyX0 k) := by decide +kernel
abbrev cX0_init : ByteArray := prog_2_method_1_code
def yX0_init : MethodName := ⟨RX0, "<init>", "()V"⟩
abbrev cX0_write : ByteArray := prog_2_method_2_code
def yX0_write : MethodName := ⟨RX0, "write", "(ILHalfFriends$Reader;)V"⟩
abbrev cX0_counts : ByteArray := prog_2_method_3_code
def yX0_counts : MethodName := ⟨RX0, "counts", "(II)I"⟩
abbrev cX0_gives : ByteArray := prog_2_method_4_code
def yX0_gives : MethodName := ⟨RX0, "gives", "(IIII)I"⟩
abbrev cX0_leaf : ByteArray := prog_2_method_5_code
def yX0_leaf : MethodName := ⟨RX0, "leaf", "(IIII)I"⟩
abbrev cX0_joined : ByteArray := prog_2_method_6_code
def yX0_joined : MethodName := ⟨RX0, "joined", "(III)I"⟩
def RX1 : String := "HalfFriends$Kinds"
def TX1 : u_T := fun k => match k with
  | _ => ("", "", "", false)
def tyX1 : Nat → FieldType := fun k => match k with
  | _ => .int
theorem nmX1 : ∀ a, a < 0 → ∀ b, b < 0 → a ≠ b → (TX1 a).2.1 ≠ (TX1 b).2.1 := by decide +kernel
theorem tyX1_ok : ∀ k, k < 0 → parseFieldDescriptor (TX1 k).2.2.1 = some (tyX1 k) := by decide +kernel
abbrev cX1_isOf : ByteArray := prog_3_method_2_code
def yX1_isOf : MethodName := ⟨RX1, "isOf", "(II)Z"⟩
abbrev cX1_owes : ByteArray := prog_3_method_3_code
def yX1_owes : MethodName := ⟨RX1, "owes", "(II)I"⟩
abbrev cX1_asks : ByteArray := prog_3_method_4_code
def yX1_asks : MethodName := ⟨RX1, "asks", "(II)I"⟩
abbrev cX1_worth : ByteArray := prog_3_method_5_code
def yX1_worth : MethodName := ⟨RX1, "worth", "(II)I"⟩
def RX2 : String := "HalfFriends$Order"
def TX2 : u_T := fun k => match k with
  | 0 => ("HalfFriends$Order", "unruly", "[I", true)
  | _ => ("HalfFriends$Order", "all", "I", false)
def tyX2 : Nat → FieldType := fun k => match k with
  | 0 => .array .int
  | _ => .int
theorem nmX2 : ∀ a, a < 2 → ∀ b, b < 2 → a ≠ b → (TX2 a).2.1 ≠ (TX2 b).2.1 := by decide +kernel
theorem tyX2_ok : ∀ k, k < 2 → parseFieldDescriptor (TX2 k).2.2.1 = some (tyX2 k) := by decide +kernel
abbrev cX2_init : ByteArray := prog_4_method_1_code
def yX2_init : MethodName := ⟨RX2, "<init>", "()V"⟩
abbrev cX2_scan : ByteArray := prog_4_method_2_code
def yX2_scan : MethodName := ⟨RX2, "scan", "(LHalfFriends$Town;)V"⟩
abbrev cX2_howMany : ByteArray := prog_4_method_3_code
def yX2_howMany : MethodName := ⟨RX2, "howMany", "()I"⟩
abbrev cX2_chosen : ByteArray := prog_4_method_4_code
def yX2_chosen : MethodName := ⟨RX2, "chosen", "(LHalfFriends$Town;I)I"⟩
abbrev cX2_cost : ByteArray := prog_4_method_5_code
def yX2_cost : MethodName := ⟨RX2, "cost", "(LHalfFriends$Town;II)I"⟩
abbrev cX2_priceOf : ByteArray := prog_4_method_6_code
def yX2_priceOf : MethodName := ⟨RX2, "priceOf", "(LHalfFriends$Town;I)I"⟩
abbrev cX2_free : ByteArray := prog_4_method_7_code
def yX2_free : MethodName := ⟨RX2, "free", "()I"⟩
abbrev cX2_nearest : ByteArray := prog_4_method_8_code
def yX2_nearest : MethodName := ⟨RX2, "nearest", "(I)I"⟩
abbrev cX2_howManyTurned : ByteArray := prog_4_method_9_code
def yX2_howManyTurned : MethodName := ⟨RX2, "howManyTurned", "(LHalfFriends$Town;II)I"⟩
def RX3 : String := "HalfFriends$Reader"
def TX3 : u_T := fun k => match k with
  | 0 => ("HalfFriends$Reader", "tape", "[I", true)
  | 1 => ("HalfFriends$Reader", "steps", "[I", true)
  | 2 => ("HalfFriends$Reader", "length", "I", false)
  | 3 => ("HalfFriends$Reader", "start", "I", false)
  | 4 => ("HalfFriends$Reader", "end", "I", false)
  | 5 => ("HalfFriends$Reader", "glued", "Z", false)
  | 6 => ("HalfFriends$Reader", "key", "I", false)
  | 7 => ("HalfFriends$Reader", "leaves", "I", false)
  | _ => ("HalfFriends$Reader", "stepCount", "I", false)
def tyX3 : Nat → FieldType := fun k => match k with
  | 0 => .array .int
  | 1 => .array .int
  | 2 => .int
  | 3 => .int
  | 4 => .int
  | 5 => .boolean
  | 6 => .int
  | 7 => .int
  | _ => .int
theorem nmX3 : ∀ a, a < 9 → ∀ b, b < 9 → a ≠ b → (TX3 a).2.1 ≠ (TX3 b).2.1 := by decide +kernel
theorem tyX3_ok : ∀ k, k < 9 → parseFieldDescriptor (TX3 k).2.2.1 = some (tyX3 k) := by decide +kernel
abbrev cX3_init : ByteArray := prog_5_method_1_code
def yX3_init : MethodName := ⟨RX3, "<init>", "()V"⟩
abbrev cX3_append : ByteArray := prog_5_method_2_code
def yX3_append : MethodName := ⟨RX3, "append", "(I)V"⟩
abbrev cX3_read : ByteArray := prog_5_method_3_code
def yX3_read : MethodName := ⟨RX3, "read", "()Z"⟩
abbrev cX3_next : ByteArray := prog_5_method_4_code
def yX3_next : MethodName := ⟨RX3, "next", "()V"⟩
abbrev cX3_sortAt : ByteArray := prog_5_method_5_code
def yX3_sortAt : MethodName := ⟨RX3, "sortAt", "(I)I"⟩
abbrev cX3_keyHere : ByteArray := prog_5_method_6_code
def yX3_keyHere : MethodName := ⟨RX3, "keyHere", "()I"⟩
abbrev cX3_isHere : ByteArray := prog_5_method_7_code
def yX3_isHere : MethodName := ⟨RX3, "isHere", "(Ljava/lang/String;)Z"⟩
abbrev cX3_joinsHere : ByteArray := prog_5_method_8_code
def yX3_joinsHere : MethodName := ⟨RX3, "joinsHere", "(I)Z"⟩
abbrev cX3_signsOf : ByteArray := prog_5_method_9_code
def yX3_signsOf : MethodName := ⟨RX3, "signsOf", "(I)Ljava/lang/String;"⟩
abbrev cX3_level : ByteArray := prog_5_method_10_code
def yX3_level : MethodName := ⟨RX3, "level", "(III)Z"⟩
abbrev cX3_piece : ByteArray := prog_5_method_11_code
def yX3_piece : MethodName := ⟨RX3, "piece", "(II)Z"⟩
abbrev cX3_negated : ByteArray := prog_5_method_12_code
def yX3_negated : MethodName := ⟨RX3, "negated", "(II)Z"⟩
abbrev cX3_enclosed : ByteArray := prog_5_method_13_code
def yX3_enclosed : MethodName := ⟨RX3, "enclosed", "(II)Z"⟩
abbrev cX3_number : ByteArray := prog_5_method_14_code
def yX3_number : MethodName := ⟨RX3, "number", "()Z"⟩
abbrev cX3_name : ByteArray := prog_5_method_15_code
def yX3_name : MethodName := ⟨RX3, "name", "()Z"⟩
abbrev cX3_put : ByteArray := prog_5_method_16_code
def yX3_put : MethodName := ⟨RX3, "put", "(I)V"⟩
def RX4 : String := "HalfFriends$Row"
def TX4 : u_T := fun k => match k with
  | 0 => ("HalfFriends$Row", "places", "[I", true)
  | 1 => ("HalfFriends$Row", "sort", "I", false)
  | _ => ("HalfFriends$Row", "size", "I", false)
def tyX4 : Nat → FieldType := fun k => match k with
  | 0 => .array .int
  | 1 => .int
  | _ => .int
theorem nmX4 : ∀ a, a < 3 → ∀ b, b < 3 → a ≠ b → (TX4 a).2.1 ≠ (TX4 b).2.1 := by decide +kernel
theorem tyX4_ok : ∀ k, k < 3 → parseFieldDescriptor (TX4 k).2.2.1 = some (tyX4 k) := by decide +kernel
abbrev cX4_init : ByteArray := prog_6_method_1_code
def yX4_init : MethodName := ⟨RX4, "<init>", "()V"⟩
abbrev cX4_begin : ByteArray := prog_6_method_2_code
def yX4_begin : MethodName := ⟨RX4, "begin", "(II)V"⟩
abbrev cX4_become : ByteArray := prog_6_method_3_code
def yX4_become : MethodName := ⟨RX4, "become", "(LHalfFriends$Row;)V"⟩
abbrev cX4_isMissing : ByteArray := prog_6_method_4_code
def yX4_isMissing : MethodName := ⟨RX4, "isMissing", "()Z"⟩
abbrev cX4_hasNo : ByteArray := prog_6_method_5_code
def yX4_hasNo : MethodName := ⟨RX4, "hasNo", "(I)Z"⟩
abbrev cX4_lacks : ByteArray := prog_6_method_6_code
def yX4_lacks : MethodName := ⟨RX4, "lacks", "(II)Z"⟩
abbrev cX4_isNumber : ByteArray := prog_6_method_7_code
def yX4_isNumber : MethodName := ⟨RX4, "isNumber", "(I)Z"⟩
def RX5 : String := "HalfFriends$Slot"
def TX5 : u_T := fun k => match k with
  | 0 => ("HalfFriends$Slot", "row", "LHalfFriends$Row;", true)
  | 1 => ("HalfFriends$Slot", "thing", "I", false)
  | 2 => ("HalfFriends$Slot", "kind", "I", false)
  | 3 => ("HalfFriends$Slot", "price", "I", false)
  | _ => ("HalfFriends$Slot", "number", "I", false)
def tyX5 : Nat → FieldType := fun k => match k with
  | 0 => .object "HalfFriends$Row"
  | 1 => .int
  | 2 => .int
  | 3 => .int
  | _ => .int
theorem nmX5 : ∀ a, a < 5 → ∀ b, b < 5 → a ≠ b → (TX5 a).2.1 ≠ (TX5 b).2.1 := by decide +kernel
theorem tyX5_ok : ∀ k, k < 5 → parseFieldDescriptor (TX5 k).2.2.1 = some (tyX5 k) := by decide +kernel
abbrev cX5_init : ByteArray := prog_7_method_1_code
def yX5_init : MethodName := ⟨RX5, "<init>", "()V"⟩
abbrev cX5_isNot : ByteArray := prog_7_method_2_code
def yX5_isNot : MethodName := ⟨RX5, "isNot", "(I)I"⟩
def RX6 : String := "HalfFriends$Town"
def TX6 : u_T := fun k => match k with
  | 0 => ("HalfFriends$Town", "book", "LHalfFriends$Book;", true)
  | 1 => ("HalfFriends$Town", "kind", "[I", true)
  | 2 => ("HalfFriends$Town", "price", "[I", true)
  | 3 => ("HalfFriends$Town", "purse", "[I", true)
  | 4 => ("HalfFriends$Town", "circle", "[I", true)
  | 5 => ("HalfFriends$Town", "size", "I", false)
  | 6 => ("HalfFriends$Town", "minds", "I", false)
  | 7 => ("HalfFriends$Town", "slack", "I", false)
  | 8 => ("HalfFriends$Town", "mode", "I", false)
  | 9 => ("HalfFriends$Town", "whim", "I", false)
  | 10 => ("HalfFriends$Town", "chest", "I", false)
  | 11 => ("HalfFriends$Town", "changes", "I", false)
  | 12 => ("HalfFriends$Town", "year", "I", false)
  | 13 => ("HalfFriends$Town", "z", "I", false)
  | _ => ("HalfFriends$Town", "texts", "I", false)
def tyX6 : Nat → FieldType := fun k => match k with
  | 0 => .object "HalfFriends$Book"
  | 1 => .array .int
  | 2 => .array .int
  | 3 => .array .int
  | 4 => .array .int
  | 5 => .int
  | 6 => .int
  | 7 => .int
  | 8 => .int
  | 9 => .int
  | 10 => .int
  | 11 => .int
  | 12 => .int
  | 13 => .int
  | _ => .int
theorem nmX6 : ∀ a, a < 15 → ∀ b, b < 15 → a ≠ b → (TX6 a).2.1 ≠ (TX6 b).2.1 := by decide +kernel
theorem tyX6_ok : ∀ k, k < 15 → parseFieldDescriptor (TX6 k).2.2.1 = some (tyX6 k) := by decide +kernel
abbrev cX6_init : ByteArray := prog_8_method_1_code
def yX6_init : MethodName := ⟨RX6, "<init>", "(LHalfFriends$Book;)V"⟩
abbrev cX6_become : ByteArray := prog_8_method_2_code
def yX6_become : MethodName := ⟨RX6, "become", "(LHalfFriends$Town;)V"⟩
abbrev cX6_join : ByteArray := prog_8_method_3_code
def yX6_join : MethodName := ⟨RX6, "join", "(III)V"⟩
abbrev cX6_mindOf : ByteArray := prog_8_method_4_code
def yX6_mindOf : MethodName := ⟨RX6, "mindOf", "(I)I"⟩
abbrev cX6_flip : ByteArray := prog_8_method_5_code
def yX6_flip : MethodName := ⟨RX6, "flip", "(I)V"⟩
abbrev cX6_areFriends : ByteArray := prog_8_method_6_code
def yX6_areFriends : MethodName := ⟨RX6, "areFriends", "(II)Z"⟩
abbrev cX6_offAmong : ByteArray := prog_8_method_7_code
def yX6_offAmong : MethodName := ⟨RX6, "offAmong", "(II)I"⟩
abbrev cX6_off : ByteArray := prog_8_method_8_code
def yX6_off : MethodName := ⟨RX6, "off", "(II)I"⟩
abbrev cX6_offOf : ByteArray := prog_8_method_9_code
def yX6_offOf : MethodName := ⟨RX6, "offOf", "(I)I"⟩
abbrev cX6_offTogether : ByteArray := prog_8_method_10_code
def yX6_offTogether : MethodName := ⟨RX6, "offTogether", "()I"⟩
abbrev cX6_unruly : ByteArray := prog_8_method_11_code
def yX6_unruly : MethodName := ⟨RX6, "unruly", "(I)I"⟩
abbrev cX6_oddOnes : ByteArray := prog_8_method_12_code
def yX6_oddOnes : MethodName := ⟨RX6, "oddOnes", "()I"⟩
abbrev cX6_fixedOnes : ByteArray := prog_8_method_13_code
def yX6_fixedOnes : MethodName := ⟨RX6, "fixedOnes", "()I"⟩
abbrev cX6_owes : ByteArray := prog_8_method_14_code
def yX6_owes : MethodName := ⟨RX6, "owes", "(I)I"⟩
abbrev cX6_asks : ByteArray := prog_8_method_15_code
def yX6_asks : MethodName := ⟨RX6, "asks", "(I)I"⟩
abbrev cX6_draw : ByteArray := prog_8_method_16_code
def yX6_draw : MethodName := ⟨RX6, "draw", "()I"⟩
abbrev cX6_pass : ByteArray := prog_8_method_17_code
def yX6_pass : MethodName := ⟨RX6, "pass", "(I)V"⟩
abbrev cX6_pay : ByteArray := prog_8_method_18_code
def yX6_pay : MethodName := ⟨RX6, "pay", "(II)V"⟩
abbrev cX6_payDues : ByteArray := prog_8_method_19_code
def yX6_payDues : MethodName := ⟨RX6, "payDues", "()V"⟩
abbrev cX6_lookedAt : ByteArray := prog_8_method_20_code
def yX6_lookedAt : MethodName := ⟨RX6, "lookedAt", "()I"⟩
abbrev cX6_worst : ByteArray := prog_8_method_21_code
def yX6_worst : MethodName := ⟨RX6, "worst", "()I"⟩
abbrev cX6_persuade : ByteArray := prog_8_method_22_code
def yX6_persuade : MethodName := ⟨RX6, "persuade", "(I)V"⟩
abbrev cX6_offOfAll : ByteArray := prog_8_method_23_code
def yX6_offOfAll : MethodName := ⟨RX6, "offOfAll", "(II)I"⟩
abbrev cX6_haveWhim : ByteArray := prog_8_method_24_code
def yX6_haveWhim : MethodName := ⟨RX6, "haveWhim", "()V"⟩
def RX7 : String := "HalfFriends"
def TX7 : u_T := fun k => match k with
  | 0 => ("HalfFriends", "book", "LHalfFriends$Book;", true)
  | 1 => ("HalfFriends", "now", "LHalfFriends$Town;", true)
  | 2 => ("HalfFriends", "image", "LHalfFriends$Town;", true)
  | 3 => ("HalfFriends", "thought", "LHalfFriends$Town;", true)
  | 4 => ("HalfFriends", "order", "LHalfFriends$Order;", true)
  | 5 => ("HalfFriends", "reader", "LHalfFriends$Reader;", true)
  | 6 => ("HalfFriends", "sheets", "[LHalfFriends$Row;", true)
  | 7 => ("HalfFriends", "slots", "[LHalfFriends$Slot;", true)
  | 8 => ("HalfFriends", "waiting", "[I", true)
  | 9 => ("HalfFriends", "waits", "I", false)
  | _ => ("HalfFriends", "kept", "Z", false)
def tyX7 : Nat → FieldType := fun k => match k with
  | 0 => .object "HalfFriends$Book"
  | 1 => .object "HalfFriends$Town"
  | 2 => .object "HalfFriends$Town"
  | 3 => .object "HalfFriends$Town"
  | 4 => .object "HalfFriends$Order"
  | 5 => .object "HalfFriends$Reader"
  | 6 => .array (.object "HalfFriends$Row")
  | 7 => .array (.object "HalfFriends$Slot")
  | 8 => .array .int
  | 9 => .int
  | _ => .boolean
theorem nmX7 : ∀ a, a < 11 → ∀ b, b < 11 → a ≠ b → (TX7 a).2.1 ≠ (TX7 b).2.1 := by decide +kernel
theorem tyX7_ok : ∀ k, k < 11 → parseFieldDescriptor (TX7 k).2.2.1 = some (tyX7 k) := by decide +kernel
abbrev cX7_init : ByteArray := prog_1_method_1_code
def yX7_init : MethodName := ⟨RX7, "<init>", "()V"⟩
abbrev cX7_person : ByteArray := prog_1_method_2_code
def yX7_person : MethodName := ⟨RX7, "person", "(III)I"⟩
abbrev cX7_told : ByteArray := prog_1_method_3_code
def yX7_told : MethodName := ⟨RX7, "told", "(II)I"⟩
abbrev cX7_as : ByteArray := prog_1_method_4_code
def yX7_as : MethodName := ⟨RX7, "as", "(II)I"⟩
abbrev cX7_turns : ByteArray := prog_1_method_5_code
def yX7_turns : MethodName := ⟨RX7, "turns", "(II)I"⟩
abbrev cX7_set : ByteArray := prog_1_method_6_code
def yX7_set : MethodName := ⟨RX7, "set", "(III)I"⟩
abbrev cX7_setMind : ByteArray := prog_1_method_7_code
def yX7_setMind : MethodName := ⟨RX7, "setMind", "(II)I"⟩
abbrev cX7_setPrice : ByteArray := prog_1_method_8_code
def yX7_setPrice : MethodName := ⟨RX7, "setPrice", "(II)I"⟩
abbrev cX7_setPurse : ByteArray := prog_1_method_9_code
def yX7_setPurse : MethodName := ⟨RX7, "setPurse", "(II)I"⟩
abbrev cX7_friends : ByteArray := prog_1_method_10_code
def yX7_friends : MethodName := ⟨RX7, "friends", "(III)I"⟩
abbrev cX7_rule : ByteArray := prog_1_method_11_code
def yX7_rule : MethodName := ⟨RX7, "rule", "(II)I"⟩
abbrev cX7_deal : ByteArray := prog_1_method_12_code
def yX7_deal : MethodName := ⟨RX7, "deal", "(I)I"⟩
abbrev cX7_seed : ByteArray := prog_1_method_13_code
def yX7_seed : MethodName := ⟨RX7, "seed", "(I)I"⟩
abbrev cX7_town : ByteArray := prog_1_method_14_code
def yX7_town : MethodName := ⟨RX7, "town", "(I)I"⟩
abbrev cX7_ways : ByteArray := prog_1_method_15_code
def yX7_ways : MethodName := ⟨RX7, "ways", "()I"⟩
abbrev cX7_minds : ByteArray := prog_1_method_16_code
def yX7_minds : MethodName := ⟨RX7, "minds", "(I)I"⟩
abbrev cX7_freedom : ByteArray := prog_1_method_17_code
def yX7_freedom : MethodName := ⟨RX7, "freedom", "()I"⟩
abbrev cX7_together : ByteArray := prog_1_method_18_code
def yX7_together : MethodName := ⟨RX7, "together", "()I"⟩
abbrev cX7_best : ByteArray := prog_1_method_19_code
def yX7_best : MethodName := ⟨RX7, "best", "(II)I"⟩
abbrev cX7_years : ByteArray := prog_1_method_20_code
def yX7_years : MethodName := ⟨RX7, "years", "(I)I"⟩
abbrev cX7_behind : ByteArray := prog_1_method_21_code
def yX7_behind : MethodName := ⟨RX7, "behind", "(II)I"⟩
abbrev cX7_settles : ByteArray := prog_1_method_22_code
def yX7_settles : MethodName := ⟨RX7, "settles", "()I"⟩
abbrev cX7_won : ByteArray := prog_1_method_23_code
def yX7_won : MethodName := ⟨RX7, "won", "(II)I"⟩
abbrev cX7_lied : ByteArray := prog_1_method_24_code
def yX7_lied : MethodName := ⟨RX7, "lied", "(II)I"⟩
abbrev cX7_differences : ByteArray := prog_1_method_25_code
def yX7_differences : MethodName := ⟨RX7, "differences", "(LHalfFriends$Row;I)I"⟩
abbrev cX7_fee : ByteArray := prog_1_method_26_code
def yX7_fee : MethodName := ⟨RX7, "fee", "()I"⟩
abbrev cX7_fine : ByteArray := prog_1_method_27_code
def yX7_fine : MethodName := ⟨RX7, "fine", "(I)I"⟩
abbrev cX7_feed : ByteArray := prog_1_method_28_code
def yX7_feed : MethodName := ⟨RX7, "feed", "(III)I"⟩
abbrev cX7_trim : ByteArray := prog_1_method_29_code
def yX7_trim : MethodName := ⟨RX7, "trim", "(I)I"⟩
abbrev cX7_text : ByteArray := prog_1_method_30_code
def yX7_text : MethodName := ⟨RX7, "text", "()I"⟩
abbrev cX7_textTold : ByteArray := prog_1_method_31_code
def yX7_textTold : MethodName := ⟨RX7, "textTold", "(II)I"⟩
abbrev cX7_why : ByteArray := prog_1_method_32_code
def yX7_why : MethodName := ⟨RX7, "why", "(I)I"⟩
abbrev cX7_sheet : ByteArray := prog_1_method_33_code
def yX7_sheet : MethodName := ⟨RX7, "sheet", "(III)I"⟩
abbrev cX7_mark : ByteArray := prog_1_method_34_code
def yX7_mark : MethodName := ⟨RX7, "mark", "(III)I"⟩
abbrev cX7_pour : ByteArray := prog_1_method_35_code
def yX7_pour : MethodName := ⟨RX7, "pour", "(I)I"⟩
abbrev cX7_reads : ByteArray := prog_1_method_36_code
def yX7_reads : MethodName := ⟨RX7, "reads", "(I)I"⟩
abbrev cX7_copy : ByteArray := prog_1_method_37_code
def yX7_copy : MethodName := ⟨RX7, "copy", "(IIIII)I"⟩
abbrev cX7_lay : ByteArray := prog_1_method_38_code
def yX7_lay : MethodName := ⟨RX7, "lay", "(III)I"⟩
abbrev cX7_ask : ByteArray := prog_1_method_39_code
def yX7_ask : MethodName := ⟨RX7, "ask", "(II)I"⟩
abbrev cX7_item : ByteArray := prog_1_method_40_code
def yX7_item : MethodName := ⟨RX7, "item", "(II)I"⟩
abbrev cX7_rest : ByteArray := prog_1_method_41_code
def yX7_rest : MethodName := ⟨RX7, "rest", "(II)I"⟩
abbrev cX7_tell : ByteArray := prog_1_method_42_code
def yX7_tell : MethodName := ⟨RX7, "tell", "(I)I"⟩
abbrev cX7_check : ByteArray := prog_1_method_43_code
def yX7_check : MethodName := ⟨RX7, "check", "(I)I"⟩
abbrev cX7_keep : ByteArray := prog_1_method_44_code
def yX7_keep : MethodName := ⟨RX7, "keep", "()I"⟩
abbrev cX7_back : ByteArray := prog_1_method_45_code
def yX7_back : MethodName := ⟨RX7, "back", "()I"⟩
abbrev cX7_count : ByteArray := prog_1_method_46_code
def yX7_count : MethodName := ⟨RX7, "count", "(I)I"⟩
abbrev cX7_outside : ByteArray := prog_1_method_47_code
def yX7_outside : MethodName := ⟨RX7, "outside", "(III)Z"⟩
abbrev cX7_isNobody : ByteArray := prog_1_method_48_code
def yX7_isNobody : MethodName := ⟨RX7, "isNobody", "(I)Z"⟩
abbrev cX7_isNoSheet : ByteArray := prog_1_method_49_code
def yX7_isNoSheet : MethodName := ⟨RX7, "isNoSheet", "(I)Z"⟩
abbrev cX7_isNoSlot : ByteArray := prog_1_method_50_code
def yX7_isNoSlot : MethodName := ⟨RX7, "isNoSlot", "(I)Z"⟩
def RX8 : String := "HalfFriendsModel"
def TX8 : u_T := fun k => match k with
  | 0 => ("HalfFriendsModel", "s", "[I", true)
  | 1 => ("HalfFriendsModel", "image", "[I", true)
  | 2 => ("HalfFriendsModel", "aside", "[I", true)
  | 3 => ("HalfFriendsModel", "hasImage", "Z", false)
  | 4 => ("HalfFriendsModel", "tSort", "[I", true)
  | 5 => ("HalfFriendsModel", "tSize", "[I", true)
  | 6 => ("HalfFriendsModel", "tNumber", "[I", true)
  | 7 => ("HalfFriendsModel", "held", "[I", true)
  | 8 => ("HalfFriendsModel", "heldNumber", "[I", true)
  | 9 => ("HalfFriendsModel", "heldWorth", "[I", true)
  | 10 => ("HalfFriendsModel", "heldSize", "[I", true)
  | 11 => ("HalfFriendsModel", "heldRow", "[I", true)
  | 12 => ("HalfFriendsModel", "close", "[I", true)
  | 13 => ("HalfFriendsModel", "tape", "[I", true)
  | 14 => ("HalfFriendsModel", "taped", "I", false)
  | 15 => ("HalfFriendsModel", "begin", "I", false)
  | 16 => ("HalfFriendsModel", "behind", "I", false)
  | 17 => ("HalfFriendsModel", "token", "I", false)
  | 18 => ("HalfFriendsModel", "number", "I", false)
  | 19 => ("HalfFriendsModel", "letter", "I", false)
  | 20 => ("HalfFriendsModel", "deep", "I", false)
  | 21 => ("HalfFriendsModel", "turned", "I", false)
  | 22 => ("HalfFriendsModel", "laid", "I", false)
  | 23 => ("HalfFriendsModel", "laidAt", "I", false)
  | 24 => ("HalfFriendsModel", "said", "I", false)
  | 25 => ("HalfFriendsModel", "named", "[I", true)
  | 26 => ("HalfFriendsModel", "pile", "[I", true)
  | 27 => ("HalfFriendsModel", "carried", "[I", true)
  | 28 => ("HalfFriendsModel", "waits", "[I", true)
  | 29 => ("HalfFriendsModel", "waiting", "I", false)
  | _ => ("HalfFriendsModel", "rowDue", "[I", true)
def tyX8 : Nat → FieldType := fun k => match k with
  | 0 => .array .int
  | 1 => .array .int
  | 2 => .array .int
  | 3 => .boolean
  | 4 => .array .int
  | 5 => .array .int
  | 6 => .array .int
  | 7 => .array .int
  | 8 => .array .int
  | 9 => .array .int
  | 10 => .array .int
  | 11 => .array .int
  | 12 => .array .int
  | 13 => .array .int
  | 14 => .int
  | 15 => .int
  | 16 => .int
  | 17 => .int
  | 18 => .int
  | 19 => .int
  | 20 => .int
  | 21 => .int
  | 22 => .int
  | 23 => .int
  | 24 => .int
  | 25 => .array .int
  | 26 => .array .int
  | 27 => .array .int
  | 28 => .array .int
  | 29 => .int
  | _ => .array .int
theorem nmX8 : ∀ a, a < 31 → ∀ b, b < 31 → a ≠ b → (TX8 a).2.1 ≠ (TX8 b).2.1 := by decide +kernel
theorem tyX8_ok : ∀ k, k < 31 → parseFieldDescriptor (TX8 k).2.2.1 = some (tyX8 k) := by decide +kernel
abbrev cX8_init : ByteArray := prog_10_method_1_code
def yX8_init : MethodName := ⟨RX8, "<init>", "()V"⟩
abbrev cX8_isIn : ByteArray := prog_10_method_2_code
def yX8_isIn : MethodName := ⟨RX8, "isIn", "(JJJ)Z"⟩
abbrev cX8_orNone : ByteArray := prog_10_method_3_code
def yX8_orNone : MethodName := ⟨RX8, "orNone", "(I)I"⟩
abbrev cX8_within : ByteArray := prog_10_method_4_code
def yX8_within : MethodName := ⟨RX8, "within", "(III)I"⟩
abbrev cX8_off : ByteArray := prog_10_method_5_code
def yX8_off : MethodName := ⟨RX8, "off", "(II)I"⟩
abbrev cX8_manyIn : ByteArray := prog_10_method_6_code
def yX8_manyIn : MethodName := ⟨RX8, "manyIn", "(I)I"⟩
abbrev cX8_isFor : ByteArray := prog_10_method_7_code
def yX8_isFor : MethodName := ⟨RX8, "isFor", "(I)I"⟩
abbrev cX8_becomes : ByteArray := prog_10_method_8_code
def yX8_becomes : MethodName := ⟨RX8, "becomes", "(II)I"⟩
abbrev cX8_textAt : ByteArray := prog_10_method_9_code
def yX8_textAt : MethodName := ⟨RX8, "textAt", "(I)I"⟩
abbrev cX8_of : ByteArray := prog_10_method_10_code
def yX8_of : MethodName := ⟨RX8, "of", "(II)I"⟩
abbrev cX8_sets : ByteArray := prog_10_method_11_code
def yX8_sets : MethodName := ⟨RX8, "sets", "(III)V"⟩
abbrev cX8_isOne : ByteArray := prog_10_method_12_code
def yX8_isOne : MethodName := ⟨RX8, "isOne", "(I)Z"⟩
abbrev cX8_isText : ByteArray := prog_10_method_13_code
def yX8_isText : MethodName := ⟨RX8, "isText", "(I)Z"⟩
abbrev cX8_drawn : ByteArray := prog_10_method_14_code
def yX8_drawn : MethodName := ⟨RX8, "drawn", "()I"⟩
abbrev cX8_comes : ByteArray := prog_10_method_15_code
def yX8_comes : MethodName := ⟨RX8, "comes", "(III)V"⟩
abbrev cX8_person : ByteArray := prog_10_method_16_code
def yX8_person : MethodName := ⟨RX8, "person", "(III)I"⟩
abbrev cX8_forNow : ByteArray := prog_10_method_17_code
def yX8_forNow : MethodName := ⟨RX8, "forNow", "()I"⟩
abbrev cX8_offBy : ByteArray := prog_10_method_18_code
def yX8_offBy : MethodName := ⟨RX8, "offBy", "(II)I"⟩
abbrev cX8_offOf : ByteArray := prog_10_method_19_code
def yX8_offOf : MethodName := ⟨RX8, "offOf", "(I)I"⟩
abbrev cX8_dues : ByteArray := prog_10_method_20_code
def yX8_dues : MethodName := ⟨RX8, "dues", "(I)I"⟩
abbrev cX8_asks : ByteArray := prog_10_method_21_code
def yX8_asks : MethodName := ⟨RX8, "asks", "(I)I"⟩
abbrev cX8_worth : ByteArray := prog_10_method_22_code
def yX8_worth : MethodName := ⟨RX8, "worth", "(I)I"⟩
abbrev cX8_told : ByteArray := prog_10_method_23_code
def yX8_told : MethodName := ⟨RX8, "told", "(II)I"⟩
abbrev cX8_isOf : ByteArray := prog_10_method_24_code
def yX8_isOf : MethodName := ⟨RX8, "isOf", "(II)Z"⟩
abbrev cX8_as : ByteArray := prog_10_method_25_code
def yX8_as : MethodName := ⟨RX8, "as", "(II)I"⟩
abbrev cX8_turns : ByteArray := prog_10_method_26_code
def yX8_turns : MethodName := ⟨RX8, "turns", "(II)I"⟩
abbrev cX8_set : ByteArray := prog_10_method_27_code
def yX8_set : MethodName := ⟨RX8, "set", "(III)I"⟩
abbrev cX8_joins : ByteArray := prog_10_method_28_code
def yX8_joins : MethodName := ⟨RX8, "joins", "(III)V"⟩
abbrev cX8_areFriends : ByteArray := prog_10_method_29_code
def yX8_areFriends : MethodName := ⟨RX8, "areFriends", "(II)I"⟩
abbrev cX8_friends : ByteArray := prog_10_method_30_code
def yX8_friends : MethodName := ⟨RX8, "friends", "(III)I"⟩
abbrev cX8_rule : ByteArray := prog_10_method_31_code
def yX8_rule : MethodName := ⟨RX8, "rule", "(II)I"⟩
abbrev cX8_deal : ByteArray := prog_10_method_32_code
def yX8_deal : MethodName := ⟨RX8, "deal", "(I)I"⟩
abbrev cX8_seed : ByteArray := prog_10_method_33_code
def yX8_seed : MethodName := ⟨RX8, "seed", "(I)I"⟩
abbrev cX8_allOff : ByteArray := prog_10_method_34_code
def yX8_allOff : MethodName := ⟨RX8, "allOff", "()I"⟩
abbrev cX8_disorder : ByteArray := prog_10_method_35_code
def yX8_disorder : MethodName := ⟨RX8, "disorder", "(I)I"⟩
abbrev cX8_oddOnes : ByteArray := prog_10_method_36_code
def yX8_oddOnes : MethodName := ⟨RX8, "oddOnes", "()I"⟩
abbrev cX8_town : ByteArray := prog_10_method_37_code
def yX8_town : MethodName := ⟨RX8, "town", "(I)I"⟩
abbrev cX8_fixedOnes : ByteArray := prog_10_method_38_code
def yX8_fixedOnes : MethodName := ⟨RX8, "fixedOnes", "()I"⟩
abbrev cX8_isWay : ByteArray := prog_10_method_39_code
def yX8_isWay : MethodName := ⟨RX8, "isWay", "(I)Z"⟩
abbrev cX8_ways : ByteArray := prog_10_method_40_code
def yX8_ways : MethodName := ⟨RX8, "ways", "()I"⟩
abbrev cX8_price : ByteArray := prog_10_method_41_code
def yX8_price : MethodName := ⟨RX8, "price", "(I)I"⟩
abbrev cX8_cost : ByteArray := prog_10_method_42_code
def yX8_cost : MethodName := ⟨RX8, "cost", "(II)I"⟩
abbrev cX8_minds : ByteArray := prog_10_method_43_code
def yX8_minds : MethodName := ⟨RX8, "minds", "(I)I"⟩
abbrev cX8_freedom : ByteArray := prog_10_method_44_code
def yX8_freedom : MethodName := ⟨RX8, "freedom", "()I"⟩
abbrev cX8_together : ByteArray := prog_10_method_45_code
def yX8_together : MethodName := ⟨RX8, "together", "()I"⟩
abbrev cX8_best : ByteArray := prog_10_method_46_code
def yX8_best : MethodName := ⟨RX8, "best", "(II)I"⟩
abbrev cX8_pays : ByteArray := prog_10_method_47_code
def yX8_pays : MethodName := ⟨RX8, "pays", "(II)V"⟩
abbrev cX8_changes : ByteArray := prog_10_method_48_code
def yX8_changes : MethodName := ⟨RX8, "changes", "(I)V"⟩
abbrev cX8_worst : ByteArray := prog_10_method_49_code
def yX8_worst : MethodName := ⟨RX8, "worst", "()I"⟩
abbrev cX8_around : ByteArray := prog_10_method_50_code
def yX8_around : MethodName := ⟨RX8, "around", "(II)I"⟩
abbrev cX8_lookedAt : ByteArray := prog_10_method_51_code
def yX8_lookedAt : MethodName := ⟨RX8, "lookedAt", "()I"⟩
abbrev cX8_goesOn : ByteArray := prog_10_method_52_code
def yX8_goesOn : MethodName := ⟨RX8, "goesOn", "()V"⟩
abbrev cX8_goesOnMany : ByteArray := prog_10_method_53_code
def yX8_goesOnMany : MethodName := ⟨RX8, "goesOnMany", "(I)V"⟩
abbrev cX8_years : ByteArray := prog_10_method_54_code
def yX8_years : MethodName := ⟨RX8, "years", "(I)I"⟩
abbrev cX8_laysBy : ByteArray := prog_10_method_55_code
def yX8_laysBy : MethodName := ⟨RX8, "laysBy", "()V"⟩
abbrev cX8_laysBack : ByteArray := prog_10_method_56_code
def yX8_laysBack : MethodName := ⟨RX8, "laysBack", "()V"⟩
abbrev cX8_behind : ByteArray := prog_10_method_57_code
def yX8_behind : MethodName := ⟨RX8, "behind", "(II)I"⟩
abbrev cX8_settles : ByteArray := prog_10_method_58_code
def yX8_settles : MethodName := ⟨RX8, "settles", "()I"⟩
abbrev cX8_won : ByteArray := prog_10_method_59_code
def yX8_won : MethodName := ⟨RX8, "won", "(II)I"⟩
abbrev cX8_fee : ByteArray := prog_10_method_60_code
def yX8_fee : MethodName := ⟨RX8, "fee", "()I"⟩
abbrev cX8_fine : ByteArray := prog_10_method_61_code
def yX8_fine : MethodName := ⟨RX8, "fine", "(I)I"⟩
abbrev cX8_feed : ByteArray := prog_10_method_62_code
def yX8_feed : MethodName := ⟨RX8, "feed", "(III)I"⟩
abbrev cX8_trim : ByteArray := prog_10_method_63_code
def yX8_trim : MethodName := ⟨RX8, "trim", "(I)I"⟩
abbrev cX8_isLetter : ByteArray := prog_10_method_64_code
def yX8_isLetter : MethodName := ⟨RX8, "isLetter", "(I)Z"⟩
abbrev cX8_isDigit : ByteArray := prog_10_method_65_code
def yX8_isDigit : MethodName := ⟨RX8, "isDigit", "(I)Z"⟩
abbrev cX8_nextToken : ByteArray := prog_10_method_66_code
def yX8_nextToken : MethodName := ⟨RX8, "nextToken", "()V"⟩
abbrev cX8_isSign : ByteArray := prog_10_method_67_code
def yX8_isSign : MethodName := ⟨RX8, "isSign", "(I)Z"⟩
abbrev cX8_isWordAt : ByteArray := prog_10_method_68_code
def yX8_isWordAt : MethodName := ⟨RX8, "isWordAt", "(IIII)Z"⟩
abbrev cX8_key : ByteArray := prog_10_method_69_code
def yX8_key : MethodName := ⟨RX8, "key", "()I"⟩
abbrev cX8_isName : ByteArray := prog_10_method_70_code
def yX8_isName : MethodName := ⟨RX8, "isName", "(II)Z"⟩
abbrev cX8_step : ByteArray := prog_10_method_71_code
def yX8_step : MethodName := ⟨RX8, "step", "(II)V"⟩
abbrev cX8_either : ByteArray := prog_10_method_72_code
def yX8_either : MethodName := ⟨RX8, "either", "(I)Z"⟩
abbrev cX8_both : ByteArray := prog_10_method_73_code
def yX8_both : MethodName := ⟨RX8, "both", "(I)Z"⟩
abbrev cX8_test : ByteArray := prog_10_method_74_code
def yX8_test : MethodName := ⟨RX8, "test", "(I)Z"⟩
abbrev cX8_sum : ByteArray := prog_10_method_75_code
def yX8_sum : MethodName := ⟨RX8, "sum", "(I)Z"⟩
abbrev cX8_term : ByteArray := prog_10_method_76_code
def yX8_term : MethodName := ⟨RX8, "term", "(I)Z"⟩
abbrev cX8_part0 : ByteArray := prog_10_method_77_code
def yX8_part0 : MethodName := ⟨RX8, "part0", "(I)Z"⟩
abbrev cX8_parse : ByteArray := prog_10_method_78_code
def yX8_parse : MethodName := ⟨RX8, "parse", "()I"⟩
abbrev cX8_text : ByteArray := prog_10_method_79_code
def yX8_text : MethodName := ⟨RX8, "text", "()I"⟩
abbrev cX8_textTold : ByteArray := prog_10_method_80_code
def yX8_textTold : MethodName := ⟨RX8, "textTold", "(II)I"⟩
abbrev cX8_counts : ByteArray := prog_10_method_81_code
def yX8_counts : MethodName := ⟨RX8, "counts", "(I)I"⟩
abbrev cX8_why : ByteArray := prog_10_method_82_code
def yX8_why : MethodName := ⟨RX8, "why", "(I)I"⟩
abbrev cX8_joined : ByteArray := prog_10_method_83_code
def yX8_joined : MethodName := ⟨RX8, "joined", "(III)I"⟩
abbrev cX8_worked : ByteArray := prog_10_method_84_code
def yX8_worked : MethodName := ⟨RX8, "worked", "(I)I"⟩
abbrev cX8_isSheet : ByteArray := prog_10_method_85_code
def yX8_isSheet : MethodName := ⟨RX8, "isSheet", "(I)Z"⟩
abbrev cX8_sheet : ByteArray := prog_10_method_86_code
def yX8_sheet : MethodName := ⟨RX8, "sheet", "(III)I"⟩
abbrev cX8_mark : ByteArray := prog_10_method_87_code
def yX8_mark : MethodName := ⟨RX8, "mark", "(III)I"⟩
abbrev cX8_pour : ByteArray := prog_10_method_88_code
def yX8_pour : MethodName := ⟨RX8, "pour", "(I)I"⟩
abbrev cX8_reads : ByteArray := prog_10_method_89_code
def yX8_reads : MethodName := ⟨RX8, "reads", "(I)I"⟩
abbrev cX8_lied : ByteArray := prog_10_method_90_code
def yX8_lied : MethodName := ⟨RX8, "lied", "(II)I"⟩
abbrev cX8_copy : ByteArray := prog_10_method_91_code
def yX8_copy : MethodName := ⟨RX8, "copy", "(IIIII)I"⟩
abbrev cX8_isSlot : ByteArray := prog_10_method_92_code
def yX8_isSlot : MethodName := ⟨RX8, "isSlot", "(I)Z"⟩
abbrev cX8_lay : ByteArray := prog_10_method_93_code
def yX8_lay : MethodName := ⟨RX8, "lay", "(III)I"⟩
abbrev cX8_ask : ByteArray := prog_10_method_94_code
def yX8_ask : MethodName := ⟨RX8, "ask", "(II)I"⟩
abbrev cX8_item : ByteArray := prog_10_method_95_code
def yX8_item : MethodName := ⟨RX8, "item", "(II)I"⟩
abbrev cX8_rest : ByteArray := prog_10_method_96_code
def yX8_rest : MethodName := ⟨RX8, "rest", "(II)I"⟩
abbrev cX8_tell : ByteArray := prog_10_method_97_code
def yX8_tell : MethodName := ⟨RX8, "tell", "(I)I"⟩
abbrev cX8_setAside : ByteArray := prog_10_method_98_code
def yX8_setAside : MethodName := ⟨RX8, "setAside", "([I[I)V"⟩
abbrev cX8_check : ByteArray := prog_10_method_99_code
def yX8_check : MethodName := ⟨RX8, "check", "(I)I"⟩
abbrev cX8_keep : ByteArray := prog_10_method_100_code
def yX8_keep : MethodName := ⟨RX8, "keep", "()I"⟩
abbrev cX8_back : ByteArray := prog_10_method_101_code
def yX8_back : MethodName := ⟨RX8, "back", "()I"⟩
abbrev cX8_count : ByteArray := prog_10_method_102_code
def yX8_count : MethodName := ⟨RX8, "count", "(I)I"⟩
def RJ11 : String := "java/lang/Character"
def TJ11 : u_T := fun k => match k with
  | _ => ("", "", "", false)
def tyJ11 : Nat → FieldType := fun k => match k with
  | _ => .int
theorem nmJ11 : ∀ a, a < 0 → ∀ b, b < 0 → a ≠ b → (TJ11 a).2.1 ≠ (TJ11 b).2.1 := by decide +kernel
theorem tyJ11_ok : ∀ k, k < 0 → parseFieldDescriptor (TJ11 k).2.2.1 = some (tyJ11 k) := by decide +kernel
abbrev cJ11_isValidCodePoint_9a6ad : ByteArray := prog_11_method_11_code
def yJ11_isValidCodePoint_9a6ad : MethodName := ⟨RJ11, "isValidCodePoint", "(I)Z"⟩
abbrev cJ11_highSurrogate_5068e : ByteArray := prog_11_method_28_code
def yJ11_highSurrogate_5068e : MethodName := ⟨RJ11, "highSurrogate", "(I)C"⟩
abbrev cJ11_lowSurrogate_5068e : ByteArray := prog_11_method_29_code
def yJ11_lowSurrogate_5068e : MethodName := ⟨RJ11, "lowSurrogate", "(I)C"⟩
def RJ6 : String := "java/lang/Integer"
def TJ6 : u_T := fun k => match k with
  | _ => ("", "", "", false)
def tyJ6 : Nat → FieldType := fun k => match k with
  | _ => .int
theorem nmJ6 : ∀ a, a < 0 → ∀ b, b < 0 → a ≠ b → (TJ6 a).2.1 ≠ (TJ6 b).2.1 := by decide +kernel
theorem tyJ6_ok : ∀ k, k < 0 → parseFieldDescriptor (TJ6 k).2.2.1 = some (tyJ6 k) := by decide +kernel
abbrev cJ6_bitCount_0f7a4 : ByteArray := prog_12_method_49_code
def yJ6_bitCount_0f7a4 : MethodName := ⟨RJ6, "bitCount", "(I)I"⟩
def RJ9 : String := "java/lang/Math"
def TJ9 : u_T := fun k => match k with
  | _ => ("", "", "", false)
def tyJ9 : Nat → FieldType := fun k => match k with
  | _ => .int
theorem nmJ9 : ∀ a, a < 0 → ∀ b, b < 0 → a ≠ b → (TJ9 a).2.1 ≠ (TJ9 b).2.1 := by decide +kernel
theorem tyJ9_ok : ∀ k, k < 0 → parseFieldDescriptor (TJ9 k).2.2.1 = some (tyJ9 k) := by decide +kernel
abbrev cJ9_abs_0f7a4 : ByteArray := prog_13_method_59_code
def yJ9_abs_0f7a4 : MethodName := ⟨RJ9, "abs", "(I)I"⟩
abbrev cJ9_max_7cf53 : ByteArray := prog_13_method_65_code
def yJ9_max_7cf53 : MethodName := ⟨RJ9, "max", "(II)I"⟩
abbrev cJ9_min_7cf53 : ByteArray := prog_13_method_69_code
def yJ9_min_7cf53 : MethodName := ⟨RJ9, "min", "(II)I"⟩
def RJ0 : String := "java/lang/String"
def TJ0 : u_T := fun k => match k with
  | _ => ("", "", "", false)
def tyJ0 : Nat → FieldType := fun k => match k with
  | _ => .int
theorem nmJ0 : ∀ a, a < 0 → ∀ b, b < 0 → a ≠ b → (TJ0 a).2.1 ≠ (TJ0 b).2.1 := by decide +kernel
theorem tyJ0_ok : ∀ k, k < 0 → parseFieldDescriptor (TJ0 k).2.2.1 = some (tyJ0 k) := by decide +kernel
abbrev cJ0_length_8abf5 : ByteArray := prog_14_method_54_code
def yJ0_length_8abf5 : MethodName := ⟨RJ0, "length", "()I"⟩
abbrev cJ0_charAt_5068e : ByteArray := prog_14_method_56_code
def yJ0_charAt_5068e : MethodName := ⟨RJ0, "charAt", "(I)C"⟩
abbrev cJ0_indexOf_0f7a4 : ByteArray := prog_14_method_79_code
def yJ0_indexOf_0f7a4 : MethodName := ⟨RJ0, "indexOf", "(I)I"⟩
abbrev cJ0_indexOf_7cf53 : ByteArray := prog_14_method_80_code
def yJ0_indexOf_7cf53 : MethodName := ⟨RJ0, "indexOf", "(II)I"⟩
abbrev cJ0_coder_7d493 : ByteArray := prog_14_method_152_code
def yJ0_coder_7d493 : MethodName := ⟨RJ0, "coder", "()B"⟩
abbrev cJ0_isLatin1_aae02 : ByteArray := prog_14_method_154_code
def yJ0_isLatin1_aae02 : MethodName := ⟨RJ0, "isLatin1", "()Z"⟩
abbrev cJ0_checkIndex_df160 : ByteArray := prog_14_method_155_code
def yJ0_checkIndex_df160 : MethodName := ⟨RJ0, "checkIndex", "(II)V"⟩
abbrev cJ0_checkBoundsBeginEnd_23922 : ByteArray := prog_14_method_158_code
def yJ0_checkBoundsBeginEnd_23922 : MethodName := ⟨RJ0, "checkBoundsBeginEnd", "(III)V"⟩
def RJ1 : String := "java/lang/StringLatin1"
def TJ1 : u_T := fun k => match k with
  | _ => ("", "", "", false)
def tyJ1 : Nat → FieldType := fun k => match k with
  | _ => .int
theorem nmJ1 : ∀ a, a < 0 → ∀ b, b < 0 → a ≠ b → (TJ1 a).2.1 ≠ (TJ1 b).2.1 := by decide +kernel
theorem tyJ1_ok : ∀ k, k < 0 → parseFieldDescriptor (TJ1 k).2.2.1 = some (tyJ1 k) := by decide +kernel
abbrev cJ1_charAt_3b067 : ByteArray := prog_15_method_2_code
def yJ1_charAt_3b067 : MethodName := ⟨RJ1, "charAt", "([BI)C"⟩
abbrev cJ1_canEncode_9a6ad : ByteArray := prog_15_method_4_code
def yJ1_canEncode_9a6ad : MethodName := ⟨RJ1, "canEncode", "(I)Z"⟩
abbrev cJ1_indexOf_4cfef : ByteArray := prog_15_method_22_code
def yJ1_indexOf_4cfef : MethodName := ⟨RJ1, "indexOf", "([BIII)I"⟩
abbrev cJ1_indexOfChar_4cfef : ByteArray := prog_15_method_23_code
def yJ1_indexOfChar_4cfef : MethodName := ⟨RJ1, "indexOfChar", "([BIII)I"⟩
def RJ2 : String := "java/lang/StringUTF16"
def TJ2 : u_T := fun k => match k with
  | _ => ("", "", "", false)
def tyJ2 : Nat → FieldType := fun k => match k with
  | _ => .int
theorem nmJ2 : ∀ a, a < 0 → ∀ b, b < 0 → a ≠ b → (TJ2 a).2.1 ≠ (TJ2 b).2.1 := by decide +kernel
theorem tyJ2_ok : ∀ k, k < 0 → parseFieldDescriptor (TJ2 k).2.2.1 = some (tyJ2 k) := by decide +kernel
abbrev cJ2_getChar_3b067 : ByteArray := prog_16_method_5_code
def yJ2_getChar_3b067 : MethodName := ⟨RJ2, "getChar", "([BI)C"⟩
abbrev cJ2_length_9d52b : ByteArray := prog_16_method_6_code
def yJ2_length_9d52b : MethodName := ⟨RJ2, "length", "([B)I"⟩
abbrev cJ2_indexOf_4cfef : ByteArray := prog_16_method_40_code
def yJ2_indexOf_4cfef : MethodName := ⟨RJ2, "indexOf", "([BIII)I"⟩
abbrev cJ2_indexOfChar_4cfef : ByteArray := prog_16_method_47_code
def yJ2_indexOfChar_4cfef : MethodName := ⟨RJ2, "indexOfChar", "([BIII)I"⟩
abbrev cJ2_indexOfCharUnsafe_4cfef : ByteArray := prog_16_method_48_code
def yJ2_indexOfCharUnsafe_4cfef : MethodName := ⟨RJ2, "indexOfCharUnsafe", "([BIII)I"⟩
abbrev cJ2_indexOfSupplementary_4cfef : ByteArray := prog_16_method_49_code
def yJ2_indexOfSupplementary_4cfef : MethodName := ⟨RJ2, "indexOfSupplementary", "([BIII)I"⟩
abbrev cJ2_charAt_3b067 : ByteArray := prog_16_method_83_code
def yJ2_charAt_3b067 : MethodName := ⟨RJ2, "charAt", "([BI)C"⟩
abbrev cJ2_checkIndex_2214a : ByteArray := prog_16_method_91_code
def yJ2_checkIndex_2214a : MethodName := ⟨RJ2, "checkIndex", "(I[B)V"⟩
abbrev cJ2_checkBoundsBeginEnd_d044e : ByteArray := prog_16_method_93_code
def yJ2_checkBoundsBeginEnd_d044e : MethodName := ⟨RJ2, "checkBoundsBeginEnd", "(II[B)V"⟩
def RJ10 : String := "java/lang/System"
def TJ10 : u_T := fun k => match k with
  | _ => ("", "", "", false)
def tyJ10 : Nat → FieldType := fun k => match k with
  | _ => .int
theorem nmJ10 : ∀ a, a < 0 → ∀ b, b < 0 → a ≠ b → (TJ10 a).2.1 ≠ (TJ10 b).2.1 := by decide +kernel
theorem tyJ10_ok : ∀ k, k < 0 → parseFieldDescriptor (TJ10 k).2.2.1 = some (tyJ10 k) := by decide +kernel
def RJ3 : String := "jdk/internal/util/Preconditions"
def TJ3 : u_T := fun k => match k with
  | _ => ("", "", "", false)
def tyJ3 : Nat → FieldType := fun k => match k with
  | _ => .int
theorem nmJ3 : ∀ a, a < 0 → ∀ b, b < 0 → a ≠ b → (TJ3 a).2.1 ≠ (TJ3 b).2.1 := by decide +kernel
theorem tyJ3_ok : ∀ k, k < 0 → parseFieldDescriptor (TJ3 k).2.2.1 = some (tyJ3 k) := by decide +kernel
abbrev cJ3_checkIndex_8e157 : ByteArray := prog_18_method_11_code
def yJ3_checkIndex_8e157 : MethodName := ⟨RJ3, "checkIndex", "(IILjava/util/function/BiFunction;)I"⟩
abbrev cJ3_checkFromToIndex_8c36e : ByteArray := prog_18_method_12_code
def yJ3_checkFromToIndex_8c36e : MethodName := ⟨RJ3, "checkFromToIndex", "(IIILjava/util/function/BiFunction;)I"⟩
def RL : String := "HalfFriendsLaw"
abbrev cL_law : ByteArray := code
def yL_law : MethodName := ⟨RL, "law", "([I)Z"⟩
abbrev vwCl : List vw_C := [(RX0, TX0, 5), (RX2, TX2, 2), (RX3, TX3, 9), (RX4, TX4, 3), (RX5, TX5, 5), (RX6, TX6, 15), (RX7, TX7, 11), (RX8, TX8, 31)]
end
section
/-! THE MEMORY PICTURE: a system is N cells at the addresses q; cell i holds the row (μ i) in the shape sh i; a judgement G pc locals stack μ stands for W at that point in any heap that holds μ -/
/-- every word that a method of ours may need: what the tables say, and lasts -/
def WL : List Cond := lw_tbl.filter goodWord
abbrev Mem : Type := Nat → Nat → Int32
def mrow (μ : Mem) (i : Nat) (f : Nat → Int32) : Mem := fun j => if j = i then f else μ j
def mset (μ : Mem) (i k : Nat) (x : Int32) : Mem := mrow μ i (upd (μ i) k x)
abbrev SYS : Type := va_G × (Nat → Nat) × (Nat → (Nat → Int32) → va_E) × Nat × List (ClassId × FieldType) × ((Nat → Prop) → State → Heap → Prop) × Launch × (Nat → Nat)
def sD (Y : SYS) : va_G := Y.1
def sq (Y : SYS) : Nat → Nat := Y.2.1
def sSh (Y : SYS) : Nat → (Nat → Int32) → va_E := Y.2.2.1
def sN (Y : SYS) : Nat := Y.2.2.2.1
def sT (Y : SYS) : List (ClassId × FieldType) := Y.2.2.2.2.1
def sX (Y : SYS) : (Nat → Prop) → State → Heap → Prop := Y.2.2.2.2.2.1
def sL (Y : SYS) : Launch := Y.2.2.2.2.2.2.1
def sK (Y : SYS) : Nat → Nat := Y.2.2.2.2.2.2.2
def wld (Y : SYS) (μ : Mem) : va_W := (List.range (sN Y)).map (fun i => (sq Y i, sSh Y i (μ i)))
theorem wld_get {Y : SYS} {μ : Mem} {i : Nat} (h : i < sN Y) : (wld Y μ)[i]? = some (sq Y i, sSh Y i (μ i)) := by
  unfold wld
  rw [List.getElem?_map, List.getElem?_range h]
  rfl
theorem wld_set {Y : SYS} {μ : Mem} {i : Nat} {f : Nat → Int32} (h : i < sN Y) : (wld Y μ).set i (sq Y i, sSh Y i f) = wld Y (mrow μ i f) := by
  apply List.ext_getElem?
  intro j
  by_cases hj : j < sN Y
  · rw [wld_get hj]
    by_cases e : i = j
    · subst e
      rw [List.getElem?_set_self (by unfold wld; simpa using h)]
      simp [mrow]
    · rw [List.getElem?_set_ne e, wld_get hj]
      simp [mrow, Ne.symm e]
  · rw [List.getElem?_eq_none (by unfold wld; simp; omega), List.getElem?_eq_none (by unfold wld; simp; omega)]
def FA (Y : SYS) (sz : Nat) : Nat → Prop := fun a => (∃ i, i < sN Y ∧ a = sq Y i) ∨ sz ≤ a
def QI (Y : SYS) (A : Nat → Prop) : Prop := (∀ i j, i < sN Y → j < sN Y → sq Y i = sq Y j → i = j) ∧ ∀ i, i < sN Y → A (sq Y i)
theorem wld_D {Y : SYS} {A : Nat → Prop} (h : QI Y A) (μ : Mem) : va_D A (wld Y μ) := by
  have key : ∀ (k : Nat) (x : Nat × va_E), (wld Y μ)[k]? = some x → k < sN Y ∧ x.1 = sq Y k := by
    intro k x hk
    by_cases hj : k < sN Y
    · rw [wld_get hj] at hk
      cases hk
      exact ⟨hj, rfl⟩
    · rw [List.getElem?_eq_none (by unfold wld; simp; omega)] at hk
      cases hk
  refine ⟨fun i j x y hi hj hxy => ?_, fun k x hk => ?_⟩
  · obtain ⟨a1, a2⟩ := key i x hi
    obtain ⟨b1, b2⟩ := key j y hj
    exact h.1 i j a1 b1 (by rw [← a2, ← b2]; exact hxy)
  · obtain ⟨a1, a2⟩ := key k x hk
    rw [a2]
    exact h.2 k a1
def XO (Y : SYS) : Prop := ∀ (A B : Nat → Prop) (s U : State) (H H1 : Heap), sX Y A s H → s.WarmedH U.vm → (∀ a, a < H.size → ¬ A a → H1[a]? = H[a]?) → (∀ a, B a → A a) → sX Y B U H1
def PreB (Y : SYS) (μ : Mem) (sz : Nat) (U : State) : Prop := U.heap.size = sz ∧ va_P (sD Y) vwCl (wld Y μ) U.heap ∧ va_K (sD Y) vwCl (sT Y) U ∧ QI Y (fun _ => True) ∧ XO Y ∧ sX Y (FA Y sz) U U.heap
def QG (Y : SYS) (o : Option Value) (m : Mem) (sz : Nat) : Array Value → State → Outcome → State → Prop := fun _ st oc t => (oc = .returned o ∧ va_P (sD Y) vwCl (wld Y m) t.heap) ∧ va_F (FA Y sz) st t
def RM (d : Nat) : Room := { frames := d, cells := 0, slots := 0, locals := 40 * d }
/-- a method's contract: from the memory μ it answers o and leaves m -/
def KC (Y : SYS) (y : MethodName) (cc : ByteArray) (n : Nat) (ret : Option FieldType) (d : Nat) (as : List Value) (μ : Mem) (o : Option Value) (m : Mem) : Prop :=
  ∀ sz : Nat, Met (sL Y) y (.code y cc n ret :: WL) (RM d) (va_Pc as (PreB Y μ sz)) (QG Y o m sz) 0 0 (FA Y sz)
abbrev GT : Type := Nat → List (Nat × Value) → List Value → Mem → Prop
def IsG (Y : SYS) (G : GT) (own : String) (cc : ByteArray) (nL : Nat) (R : Room) : Prop :=
  ∃ (p : Program) (e : Env) (s : State) (m : MethodId) (args : Array Value) (below : List Frame) (meth : Method) (c : Code) (cells slots : Nat) (Z : State → Prop) (A : Nat → Prop),
    (G = fun pc lv st μ => ∀ (H : Heap) (locs : List Loc) (ls : Array Slot), va_P (sD Y) vwCl (wld Y μ) H → va_S A s.heap H locs → lv_has ls nL lv → W p (sL Y) e R s m args below meth c H locs cells slots Z (F0 m pc ls st)) ∧
    p.tables.exec = Jvm.exec ∧ c.code = cc ∧ c.maxLocals = nL ∧ s.vm.findClass own = some m.cls ∧ (∀ w ∈ WL, w.before args s = true) ∧ va_K (sD Y) vwCl (sT Y) s ∧ QI Y A ∧ (∀ a, s.heap.size ≤ a → A a) ∧ XO Y ∧ sX Y A s s.heap ∧ cells ≤ R.cells ∧ slots ≤ R.slots
def RetI (G : GT) (cc : ByteArray) (x : Int32) (m : Mem) : Prop := ∀ pc lv, decode cc pc = .ok (.ireturn, 1) → G pc lv [.int x] m
def RetZ (G : GT) (cc : ByteArray) (x : Int32) (m : Mem) : Prop := ∀ pc lv, decode cc pc = .ok (.ireturn, 1) → (x = 0 ∨ x = 1) → G pc lv [.int x] m
def RetV (G : GT) (cc : ByteArray) (m : Mem) : Prop := ∀ pc lv, decode cc pc = .ok (.return_, 1) → G pc lv [] m
def RetA (G : GT) (cc : ByteArray) (a : Nat) (m : Mem) : Prop := ∀ pc lv, decode cc pc = .ok (.areturn, 1) → G pc lv [.ref a] m
def Obj (Y : SYS) (i ci : Nat) (fs : (Nat → Int32) → List Value) : Prop := i < sN Y ∧ ∀ r, sSh Y i r = .inr (ci, fs r)
def IArr (Y : SYS) (i n : Nat) : Prop := i < sN Y ∧ ∃ (cA : ClassId) (t0 : Nat), (sT Y)[t0]? = some (cA, .int) ∧ ∀ r, sSh Y i r = .inl (cA, n, .inl r)
def RArr (Y : SYS) (i n : Nat) (g : Nat → Nat) : Prop := i < sN Y ∧ ∃ (cA : ClassId) (t0 : Nat) (C : String), (sT Y)[t0]? = some (cA, .object C) ∧ ∀ r, sSh Y i r = .inl (cA, n, .inr (.inr (.inr (.inr (fun k => some (sq Y (g k)))))))
def FR (own : String) (index ci k : Nat) : Prop := ∃ (C : String) (T : u_T) (N : Nat), vwCl[ci]? = some (C, T, N) ∧ k < N ∧ (∀ w ∈ u_ws C T N, w ∈ WL) ∧ Cond.fieldLink own index (T k).1 (T k).2.1 (T k).2.2.1 ∈ WL
def FW (own : String) (index ci k : Nat) (ty : FieldType) : Prop := ∃ (C : String) (T : u_T) (N : Nat) (ty0 : Nat → FieldType), vwCl[ci]? = some (C, T, N) ∧ k < N ∧ (∀ w ∈ u_ws C T N, w ∈ WL) ∧ Cond.fieldLink own index (T k).1 (T k).2.1 (T k).2.2.1 ∈ WL ∧ (∀ k, k < N → parseFieldDescriptor (T k).2.2.1 = some (ty0 k)) ∧ (∀ a, a < N → ∀ b, b < N → a ≠ b → (T a).2.1 ≠ (T b).2.1) ∧ (T k).2.2.2 = false ∧ parseFieldDescriptor (T k).2.2.1 = some ty
def MI (y : MethodName) (cc : ByteArray) (n : Nat) (ret : Option FieldType) (k : Nat) : Prop := Cond.code y cc n ret ∈ WL ∧ Cond.initialized y.cls ∈ WL ∧ y.cls ≠ "java/lang/invoke/MethodHandle" ∧ y.cls ≠ "java/lang/invoke/VarHandle" ∧ (parseMethodDescriptor y.desc).map (fun d => d.parameters.length) = some k
def MV (y : MethodName) : Prop := Cond.instanceMethod y ∈ WL ∧ Cond.selects y.cls y y ∈ WL
def MS (y : MethodName) : Prop := Cond.static y ∈ WL
-- pure words: what an instruction asks for before it goes on
def bn1 {α ρ : Type} (o : Option α) (F : α → Option ρ) : Option ρ := match o with
  | none => none
  | some a => F a
def bn2 {ρ : Type} (o : Option (Int32 × Mem)) (F : Int32 → Mem → Option ρ) : Option ρ := match o with
  | none => none
  | some a => F a.1 a.2
def ldM (f : Nat → Int32) (n : Nat) (x : Int32) : Option Int32 := if x < 0 ∨ n ≤ x.toNatClampNeg then none else some (f x.toNatClampNeg)
def stM (μ : Mem) (i n : Nat) (x v : Int32) : Option Mem := if x < 0 ∨ n ≤ x.toNatClampNeg then none else some (mset μ i x.toNatClampNeg v)
def rdM (n : Nat) (x : Int32) : Option Nat := if x < 0 ∨ n ≤ x.toNatClampNeg then none else some x.toNatClampNeg
def dvM (x y : Int32) : Option Int32 := if y = 0 then none else some (x / y)
def rmM (x y : Int32) : Option Int32 := if y = 0 then none else some (x - x / y * y)
def cpM (μ : Mem) (i ni : Nat) (sp : Int32) (j nj : Nat) (dp n : Int32) : Option Mem := if sp < 0 ∨ dp < 0 ∨ n < 0 ∨ ni < sp.toNatClampNeg + n.toNatClampNeg ∨ nj < dp.toNatClampNeg + n.toNatClampNeg then none else some (mrow μ j (va_cpy (μ i) (μ j) sp.toNatClampNeg dp.toNatClampNeg n.toNatClampNeg))
def zM (x : Int32) : Option Int32 := if x = 0 ∨ x = 1 then some x else none
def lpF {V X : Type} (body : V → Option (V ⊕ X)) : Nat → V → Option X
  | 0, _ => none
  | n + 1, v => match body v with
    | none => none
    | some (.inl v') => lpF body n v'
    | some (.inr x) => some x
def cs2 {A B ρ : Type} (x : A ⊕ B) (f : A → Option ρ) (g : B → Option ρ) : Option ρ := match x with
  | .inl a => f a
  | .inr b => g b
theorem bn1_i {α ρ : Type} {o : Option α} {F : α → Option ρ} {r : ρ} (h : bn1 o F = some r) : ∃ a, o = some a ∧ F a = some r := by
  cases o with
  | none => cases h
  | some a => exact ⟨a, rfl, h⟩
theorem bn2_i {ρ : Type} {o : Option (Int32 × Mem)} {F : Int32 → Mem → Option ρ} {r : ρ} (h : bn2 o F = some r) : ∃ a m, o = some (a, m) ∧ F a m = some r := by
  cases o with
  | none => cases h
  | some a => exact ⟨a.1, a.2, rfl, h⟩
theorem ite_t {ρ : Type} {c : Prop} {inst : Decidable c} {A B : Option ρ} {r : ρ} (h : c) (hf : @ite _ c inst A B = some r) : A = some r := by rw [if_pos h] at hf; exact hf
theorem ite_f {ρ : Type} {c : Prop} {inst : Decidable c} {A B : Option ρ} {r : ρ} (h : ¬ c) (hf : @ite _ c inst A B = some r) : B = some r := by rw [if_neg h] at hf; exact hf
theorem lpF_i {V X : Type} {body : V → Option (V ⊕ X)} {P : V → Prop} {K : X → Prop} (hstep : ∀ (v : V) (z : V ⊕ X), body v = some z → (∀ v', z = .inl v' → P v') → (∀ x, z = .inr x → K x) → P v) : ∀ (n : Nat) (v : V) (x : X), lpF body n v = some x → K x → P v := by
  intro n
  induction n with
  | zero => intro v x h; cases h
  | succ n ih =>
    intro v x h hK
    cases hb : body v with
    | none => rw [lpF, hb] at h; cases h
    | some z =>
      rw [lpF, hb] at h
      refine hstep v z hb (fun v' e => ?_) (fun x' e => ?_)
      · subst e
        exact ih v' x h hK
      · subst e
        cases h
        exact hK
theorem wl_of {w : Cond} (h : w ∈ lw_tbl) (hg : goodWord w = true) : w ∈ WL := List.mem_filter.mpr ⟨h, hg⟩
theorem wl_gi {w : Cond} (h : w ∈ WL) : w ∈ WL ∧ ((w.onTables && w.keeps) = true ∨ ∃ ty, w = .arrayClass ty) := ⟨h, good_of_word (List.mem_filter.mp h).2⟩
theorem wl_code {y : MethodName} {cc : ByteArray} {n : Nat} {ret : Option FieldType} (h : Cond.code y cc n ret ∈ WL) : GoodIn WL (.code y cc n ret :: WL) := fun w hw => (List.mem_cons.mp hw).elim (fun e => e ▸ wl_gi h) wl_gi
theorem FA_sub {Y : SYS} {A : Nat → Prop} {n n2 : Nat} (hQ : QI Y A) (hA : ∀ a, n ≤ a → A a) (h : n ≤ n2) : ∀ q, FA Y n2 q → A q := fun q hq => hq.elim (fun ⟨i, hi, e⟩ => e ▸ hQ.2 i hi) (fun z => hA q (Nat.le_trans h z))
theorem QI.of {Y : SYS} {A B : Nat → Prop} (h : QI Y A) (hB : ∀ i, i < sN Y → B (sq Y i)) : QI Y B := ⟨h.1, hB⟩
section WB
variable {p : Program} {l : Launch} {e : Env} {R : Room} {s : State} {m : MethodId} {args : Array Value} {below : List Frame} {meth : Method} {c : Code} {H : Heap} {locs : List Loc} {cells slots : Nat} {Q : State → Prop}
variable {pc : Nat} {ls : Array Slot} {rest st0 : List Value} {a : Array Value} {A : Nat → Prop}
theorem w_back {Y : SYS} {o : Option Value} {m' : Mem} (hr : va_Run p l e R s m args below meth c H locs cells slots 0 0 (F0 m pc ls st0) rest (QG Y o m' H.size a) (FA Y H.size)) (hS : va_S A s.heap H locs) (hF : ∀ q, FA Y H.size q → A q)
    (kk : ∀ (H1 : Heap) (locs1 : List Loc), va_P (sD Y) vwCl (wld Y m') H1 → va_S A s.heap H1 locs1 → W p l e R s m args below meth c H1 locs1 cells slots Q (F0 m (pc + 3) ls (o.toList ++ rest))) : W p l e R s m args below meth c H locs cells slots Q (F0 m pc ls st0) := by
  intro T hT X
  obtain ⟨v, st₀, t, T', L, h0, X', hL, e1, e2, ⟨⟨hv, hp⟩, hz, hk⟩, st⟩ := hr T hT X
  cases hv
  rw [h0] at hz hk
  obtain ⟨t2, a1, b1⟩ := kk T'.heap (locs ++ L) (by rw [e1]; exact hp)
    ⟨Nat.le_trans hS.1 (by rw [e1]; exact hz), fun q h1 h2 => by rw [e1, hk q (Nat.lt_of_lt_of_le h1 hS.1) (fun z => h2 (hF q z))]; exact hS.2.1 q h1 h2, fun q hq => by
      rcases List.mem_append.mp hq with h | h
      · exact hS.2.2 q h
      · exact hF _ (hL q h)⟩ T' rfl X'
  exact ⟨t2, st t2 a1, b1⟩
theorem pre_blind {Y : SYS} {as : List Value} {μ : Mem} {sz : Nat} : FrameBlind (va_Pc as (PreB Y μ sz)) := by
  intro a U g mk q
  obtain ⟨q0, q1, q2, q3, q4, q5, q6⟩ := q
  exact ⟨q0, q1, q2, va_K.moved (u := U) (U := U.calling g mk a) (Vm.Alike.refl U.vm) q3, q4, q5, q5 _ _ U (U.calling g mk a) _ _ q6 (State.WarmedH.refl U) (fun _ _ _ => rfl) (fun _ h => h)⟩
theorem pre_at {Y : SYS} {μ : Mem} {as : List Value} (hP : va_P (sD Y) vwCl (wld Y μ) H) (hS : va_S A s.heap H locs) (hK : va_K (sD Y) vwCl (sT Y) s) (hQ : QI Y A) (hA : ∀ a, s.heap.size ≤ a → A a) (hXO : XO Y) (hX : sX Y A s s.heap) : ∀ U : State, U.heap = H → s.WarmedH U.vm → va_Pc as (PreB Y μ H.size) as.toArray U := by
  intro U hU hW
  refine ⟨rfl, by rw [hU], by rw [hU]; exact hP, va_K.moved hW.alike hK, hQ.of (fun _ _ => trivial), hXO, ?_⟩
  rw [hU]
  exact hXO A _ s U s.heap H hX hW hS.2.1 (FA_sub hQ hA hS.1)
end WB
section GR
variable {Y : SYS} {G : GT} {own : String} {cc : ByteArray} {nL : Nat} {R : Room} {pc : Nat} {lv lv' : List (Nat × Value)} {st rest : List Value} {μ : Mem}
theorem g_iconst (Γ : IsG Y G own cc nL R) {n : Int} {v : Int32} (hd : decode cc pc = .ok (.iconst n, 1))  (hv : Int32.ofInt n = v) (kk : G (pc + 1) lv (.int v :: st) μ) : G pc lv st μ := by
  obtain ⟨p, e, s, m, args, below, meth, c, cells, slots, Z, A, rfl, hx, hb, hml, hown, hts, hK, hQ, hA, hXO, hX, hcl, hsl⟩ := Γ
  intro H locs ls hP hS hl
  exact lv_iconst hx hb hd hv (kk H locs ls hP hS hl)
theorem g_bipush (Γ : IsG Y G own cc nL R) {n : Int} {v : Int32} (hd : decode cc pc = .ok (.bipush n, 2))  (hv : (Int8.ofInt n).toInt32 = v) (kk : G (pc + 2) lv (.int v :: st) μ) : G pc lv st μ := by
  obtain ⟨p, e, s, m, args, below, meth, c, cells, slots, Z, A, rfl, hx, hb, hml, hown, hts, hK, hQ, hA, hXO, hX, hcl, hsl⟩ := Γ
  intro H locs ls hP hS hl
  exact lv_bipush hx hb hd hv (kk H locs ls hP hS hl)
theorem g_sipush (Γ : IsG Y G own cc nL R) {n : Int} {v : Int32} (hd : decode cc pc = .ok (.sipush n, 3))  (hv : (Int16.ofInt n).toInt32 = v) (kk : G (pc + 3) lv (.int v :: st) μ) : G pc lv st μ := by
  obtain ⟨p, e, s, m, args, below, meth, c, cells, slots, Z, A, rfl, hx, hb, hml, hown, hts, hK, hQ, hA, hXO, hX, hcl, hsl⟩ := Γ
  intro H locs ls hP hS hl
  exact lv_sipush hx hb hd hv (kk H locs ls hP hS hl)
theorem g_lconst (Γ : IsG Y G own cc nL R) {n : Fin 2} {v : Int64} (hd : decode cc pc = .ok (.lconst n, 1))  (hv : Int64.ofNat (n : Nat) = v) (kk : G (pc + 1) lv (.long v :: st) μ) : G pc lv st μ := by
  obtain ⟨p, e, s, m, args, below, meth, c, cells, slots, Z, A, rfl, hx, hb, hml, hown, hts, hK, hQ, hA, hXO, hX, hcl, hsl⟩ := Γ
  intro H locs ls hP hS hl
  exact lv_lconst hx hb hd hv (kk H locs ls hP hS hl)
theorem g_ldc (Γ : IsG Y G own cc nL R) {index : Nat} {v : Int32} (hd : decode cc pc = .ok (.ldc index, 2))  (hw : Cond.constant own index v ∈ WL) (kk : G (pc + 2) lv (.int v :: st) μ) : G pc lv st μ := by
  obtain ⟨p, e, s, m, args, below, meth, c, cells, slots, Z, A, rfl, hx, hb, hml, hown, hts, hK, hQ, hA, hXO, hX, hcl, hsl⟩ := Γ
  intro H locs ls hP hS hl
  exact lv_ldc hx hb hown (hts _ hw) hd (kk H locs ls hP hS hl)
theorem g_ldcw (Γ : IsG Y G own cc nL R) {index : Nat} {v : Int32} (hd : decode cc pc = .ok (.ldc_w index, 3))  (hw : Cond.constant own index v ∈ WL) (kk : G (pc + 3) lv (.int v :: st) μ) : G pc lv st μ := by
  obtain ⟨p, e, s, m, args, below, meth, c, cells, slots, Z, A, rfl, hx, hb, hml, hown, hts, hK, hQ, hA, hXO, hX, hcl, hsl⟩ := Γ
  intro H locs ls hP hS hl
  exact lv_ldcw hx hb hown (hts _ hw) hd (kk H locs ls hP hS hl)
theorem g_ldc2 (Γ : IsG Y G own cc nL R) {index : Nat} {v : Int64} (hd : decode cc pc = .ok (.ldc2_w index, 3))  (hw : Cond.constantLong own index v ∈ WL) (kk : G (pc + 3) lv (.long v :: st) μ) : G pc lv st μ := by
  obtain ⟨p, e, s, m, args, below, meth, c, cells, slots, Z, A, rfl, hx, hb, hml, hown, hts, hK, hQ, hA, hXO, hX, hcl, hsl⟩ := Γ
  intro H locs ls hP hS hl
  exact lv_ldc2 hx hb hown (hts _ hw) hd (kk H locs ls hP hS hl)
theorem g_iload_n (Γ : IsG Y G own cc nL R) {k : Fin 4} {i : Nat} {x : Int32} (j : Nat) (hd : decode cc pc = .ok (.iload_n k, 1))  (hi : (k : Nat) = i) (hj : lv[j]? = some (i, .int x)) (kk : G (pc + 1) lv (.int x :: st) μ) : G pc lv st μ := by
  obtain ⟨p, e, s, m, args, below, meth, c, cells, slots, Z, A, rfl, hx, hb, hml, hown, hts, hK, hQ, hA, hXO, hX, hcl, hsl⟩ := Γ
  intro H locs ls hP hS hl
  exact lv_iload_n hx hb hd hi (lv_at hl j hj) (kk H locs ls hP hS hl)
theorem g_iload (Γ : IsG Y G own cc nL R) {i : Nat} {x : Int32} (j : Nat) (hd : decode cc pc = .ok (.iload i, 2))  (hj : lv[j]? = some (i, .int x)) (kk : G (pc + 2) lv (.int x :: st) μ) : G pc lv st μ := by
  obtain ⟨p, e, s, m, args, below, meth, c, cells, slots, Z, A, rfl, hx, hb, hml, hown, hts, hK, hQ, hA, hXO, hX, hcl, hsl⟩ := Γ
  intro H locs ls hP hS hl
  exact lv_iload hx hb hd (lv_at hl j hj) (kk H locs ls hP hS hl)
theorem g_lload_n (Γ : IsG Y G own cc nL R) {k : Fin 4} {i : Nat} {x : Int64} (j : Nat) (hd : decode cc pc = .ok (.lload_n k, 1))  (hi : (k : Nat) = i) (hj : lv[j]? = some (i, .long x)) (kk : G (pc + 1) lv (.long x :: st) μ) : G pc lv st μ := by
  obtain ⟨p, e, s, m, args, below, meth, c, cells, slots, Z, A, rfl, hx, hb, hml, hown, hts, hK, hQ, hA, hXO, hX, hcl, hsl⟩ := Γ
  intro H locs ls hP hS hl
  exact lv_lload_n hx hb hd hi (lv_at hl j hj) (kk H locs ls hP hS hl)
theorem g_lload (Γ : IsG Y G own cc nL R) {i : Nat} {x : Int64} (j : Nat) (hd : decode cc pc = .ok (.lload i, 2))  (hj : lv[j]? = some (i, .long x)) (kk : G (pc + 2) lv (.long x :: st) μ) : G pc lv st μ := by
  obtain ⟨p, e, s, m, args, below, meth, c, cells, slots, Z, A, rfl, hx, hb, hml, hown, hts, hK, hQ, hA, hXO, hX, hcl, hsl⟩ := Γ
  intro H locs ls hP hS hl
  exact lv_lload hx hb hd (lv_at hl j hj) (kk H locs ls hP hS hl)
theorem g_aload_n (Γ : IsG Y G own cc nL R) {k : Fin 4} {i : Nat} {x : Nat} (j : Nat) (hd : decode cc pc = .ok (.aload_n k, 1))  (hi : (k : Nat) = i) (hj : lv[j]? = some (i, .ref x)) (kk : G (pc + 1) lv (.ref x :: st) μ) : G pc lv st μ := by
  obtain ⟨p, e, s, m, args, below, meth, c, cells, slots, Z, A, rfl, hx, hb, hml, hown, hts, hK, hQ, hA, hXO, hX, hcl, hsl⟩ := Γ
  intro H locs ls hP hS hl
  exact lv_aload_n hx hb hd hi (lv_at hl j hj) (kk H locs ls hP hS hl)
theorem g_aload (Γ : IsG Y G own cc nL R) {i : Nat} {x : Nat} (j : Nat) (hd : decode cc pc = .ok (.aload i, 2))  (hj : lv[j]? = some (i, .ref x)) (kk : G (pc + 2) lv (.ref x :: st) μ) : G pc lv st μ := by
  obtain ⟨p, e, s, m, args, below, meth, c, cells, slots, Z, A, rfl, hx, hb, hml, hown, hts, hK, hQ, hA, hXO, hX, hcl, hsl⟩ := Γ
  intro H locs ls hP hS hl
  exact lv_aload hx hb hd (lv_at hl j hj) (kk H locs ls hP hS hl)
theorem g_istore_n (Γ : IsG Y G own cc nL R) {k : Fin 4} {i : Nat} {x : Int32} (hd : decode cc pc = .ok (.istore_n k, 1))  (hi : (k : Nat) = i) (hn : i < nL) (hlv : (i, Value.int x) :: lv.filter (fun q => !(q.1 == i) && !(q.1 + 1 == i && q.2.category == 2)) = lv') (kk : G (pc + 1) lv' (st) μ) : G pc lv (.int x :: st) μ := by
  obtain ⟨p, e, s, m, args, below, meth, c, cells, slots, Z, A, rfl, hx, hb, hml, hown, hts, hK, hQ, hA, hXO, hX, hcl, hsl⟩ := Γ
  intro H locs ls hP hS hl
  exact lv_istore_n hx hb hd hi hl hn hlv (fun ls hl => kk H locs ls hP hS hl)
theorem g_istore (Γ : IsG Y G own cc nL R) {i : Nat} {x : Int32} (hd : decode cc pc = .ok (.istore i, 2))  (hn : i < nL) (hlv : (i, Value.int x) :: lv.filter (fun q => !(q.1 == i) && !(q.1 + 1 == i && q.2.category == 2)) = lv') (kk : G (pc + 2) lv' (st) μ) : G pc lv (.int x :: st) μ := by
  obtain ⟨p, e, s, m, args, below, meth, c, cells, slots, Z, A, rfl, hx, hb, hml, hown, hts, hK, hQ, hA, hXO, hX, hcl, hsl⟩ := Γ
  intro H locs ls hP hS hl
  exact lv_istore hx hb hd hl hn hlv (fun ls hl => kk H locs ls hP hS hl)
theorem g_astore_n (Γ : IsG Y G own cc nL R) {k : Fin 4} {i : Nat} {x : Nat} (hd : decode cc pc = .ok (.astore_n k, 1))  (hi : (k : Nat) = i) (hn : i < nL) (hlv : (i, Value.ref x) :: lv.filter (fun q => !(q.1 == i) && !(q.1 + 1 == i && q.2.category == 2)) = lv') (kk : G (pc + 1) lv' (st) μ) : G pc lv (.ref x :: st) μ := by
  obtain ⟨p, e, s, m, args, below, meth, c, cells, slots, Z, A, rfl, hx, hb, hml, hown, hts, hK, hQ, hA, hXO, hX, hcl, hsl⟩ := Γ
  intro H locs ls hP hS hl
  exact lv_astore_n hx hb hd hi hl hn hlv (fun ls hl => kk H locs ls hP hS hl)
theorem g_astore (Γ : IsG Y G own cc nL R) {i : Nat} {x : Nat} (hd : decode cc pc = .ok (.astore i, 2))  (hn : i < nL) (hlv : (i, Value.ref x) :: lv.filter (fun q => !(q.1 == i) && !(q.1 + 1 == i && q.2.category == 2)) = lv') (kk : G (pc + 2) lv' (st) μ) : G pc lv (.ref x :: st) μ := by
  obtain ⟨p, e, s, m, args, below, meth, c, cells, slots, Z, A, rfl, hx, hb, hml, hown, hts, hK, hQ, hA, hXO, hX, hcl, hsl⟩ := Γ
  intro H locs ls hP hS hl
  exact lv_astore hx hb hd hl hn hlv (fun ls hl => kk H locs ls hP hS hl)
theorem g_iinc (Γ : IsG Y G own cc nL R) {i : Nat} {n : Int} {x v : Int32} (j : Nat) (hd : decode cc pc = .ok (.iinc i n, 3))  (hj : lv[j]? = some (i, .int x)) (hv : x + Int32.ofInt n = v) (hn : i < nL) (hlv : (i, Value.int v) :: lv.filter (fun q => !(q.1 == i) && !(q.1 + 1 == i && q.2.category == 2)) = lv') (kk : G (pc + 3) lv' (st) μ) : G pc lv st μ := by
  obtain ⟨p, e, s, m, args, below, meth, c, cells, slots, Z, A, rfl, hx, hb, hml, hown, hts, hK, hQ, hA, hXO, hX, hcl, hsl⟩ := Γ
  intro H locs ls hP hS hl
  exact lv_iinc hx hb hd hl hj hv hn hlv (fun ls hl => kk H locs ls hP hS hl)
theorem g_iadd (Γ : IsG Y G own cc nL R) {x y : Int32} (hd : decode cc pc = .ok (.iadd, 1))  (kk : G (pc + 1) lv (.int (x + y) :: st) μ) : G pc lv (.int y :: .int x :: st) μ := by
  obtain ⟨p, e, s, m, args, below, meth, c, cells, slots, Z, A, rfl, hx, hb, hml, hown, hts, hK, hQ, hA, hXO, hX, hcl, hsl⟩ := Γ
  intro H locs ls hP hS hl
  exact lv_iadd hx hb hd (kk H locs ls hP hS hl)
theorem g_isub (Γ : IsG Y G own cc nL R) {x y : Int32} (hd : decode cc pc = .ok (.isub, 1))  (kk : G (pc + 1) lv (.int (x - y) :: st) μ) : G pc lv (.int y :: .int x :: st) μ := by
  obtain ⟨p, e, s, m, args, below, meth, c, cells, slots, Z, A, rfl, hx, hb, hml, hown, hts, hK, hQ, hA, hXO, hX, hcl, hsl⟩ := Γ
  intro H locs ls hP hS hl
  exact lv_isub hx hb hd (kk H locs ls hP hS hl)
theorem g_imul (Γ : IsG Y G own cc nL R) {x y : Int32} (hd : decode cc pc = .ok (.imul, 1))  (kk : G (pc + 1) lv (.int (x * y) :: st) μ) : G pc lv (.int y :: .int x :: st) μ := by
  obtain ⟨p, e, s, m, args, below, meth, c, cells, slots, Z, A, rfl, hx, hb, hml, hown, hts, hK, hQ, hA, hXO, hX, hcl, hsl⟩ := Γ
  intro H locs ls hP hS hl
  exact lv_imul hx hb hd (kk H locs ls hP hS hl)
theorem g_iand (Γ : IsG Y G own cc nL R) {x y : Int32} (hd : decode cc pc = .ok (.iand, 1))  (kk : G (pc + 1) lv (.int (x &&& y) :: st) μ) : G pc lv (.int y :: .int x :: st) μ := by
  obtain ⟨p, e, s, m, args, below, meth, c, cells, slots, Z, A, rfl, hx, hb, hml, hown, hts, hK, hQ, hA, hXO, hX, hcl, hsl⟩ := Γ
  intro H locs ls hP hS hl
  exact lv_iand hx hb hd (kk H locs ls hP hS hl)
theorem g_ior (Γ : IsG Y G own cc nL R) {x y : Int32} (hd : decode cc pc = .ok (.ior, 1))  (kk : G (pc + 1) lv (.int (x ||| y) :: st) μ) : G pc lv (.int y :: .int x :: st) μ := by
  obtain ⟨p, e, s, m, args, below, meth, c, cells, slots, Z, A, rfl, hx, hb, hml, hown, hts, hK, hQ, hA, hXO, hX, hcl, hsl⟩ := Γ
  intro H locs ls hP hS hl
  exact lv_ior hx hb hd (kk H locs ls hP hS hl)
theorem g_ixor (Γ : IsG Y G own cc nL R) {x y : Int32} (hd : decode cc pc = .ok (.ixor, 1))  (kk : G (pc + 1) lv (.int (x ^^^ y) :: st) μ) : G pc lv (.int y :: .int x :: st) μ := by
  obtain ⟨p, e, s, m, args, below, meth, c, cells, slots, Z, A, rfl, hx, hb, hml, hown, hts, hK, hQ, hA, hXO, hX, hcl, hsl⟩ := Γ
  intro H locs ls hP hS hl
  exact lv_ixor hx hb hd (kk H locs ls hP hS hl)
theorem g_ishl (Γ : IsG Y G own cc nL R) {x y : Int32} (hd : decode cc pc = .ok (.ishl, 1))  (kk : G (pc + 1) lv (.int (x <<< (y &&& 31)) :: st) μ) : G pc lv (.int y :: .int x :: st) μ := by
  obtain ⟨p, e, s, m, args, below, meth, c, cells, slots, Z, A, rfl, hx, hb, hml, hown, hts, hK, hQ, hA, hXO, hX, hcl, hsl⟩ := Γ
  intro H locs ls hP hS hl
  exact lv_ishl hx hb hd (kk H locs ls hP hS hl)
theorem g_ishr (Γ : IsG Y G own cc nL R) {x y : Int32} (hd : decode cc pc = .ok (.ishr, 1))  (kk : G (pc + 1) lv (.int (x >>> (y &&& 31)) :: st) μ) : G pc lv (.int y :: .int x :: st) μ := by
  obtain ⟨p, e, s, m, args, below, meth, c, cells, slots, Z, A, rfl, hx, hb, hml, hown, hts, hK, hQ, hA, hXO, hX, hcl, hsl⟩ := Γ
  intro H locs ls hP hS hl
  exact lv_ishr hx hb hd (kk H locs ls hP hS hl)
theorem g_iushr (Γ : IsG Y G own cc nL R) {x y : Int32} (hd : decode cc pc = .ok (.iushr, 1))  (kk : G (pc + 1) lv (.int ((x.toUInt32 >>> (y.toUInt32 &&& Int32.toUInt32 31)).toInt32) :: st) μ) : G pc lv (.int y :: .int x :: st) μ := by
  obtain ⟨p, e, s, m, args, below, meth, c, cells, slots, Z, A, rfl, hx, hb, hml, hown, hts, hK, hQ, hA, hXO, hX, hcl, hsl⟩ := Γ
  intro H locs ls hP hS hl
  exact lv_iushr hx hb hd rfl (kk H locs ls hP hS hl)
theorem g_ineg (Γ : IsG Y G own cc nL R) {x : Int32} (hd : decode cc pc = .ok (.ineg, 1))  (kk : G (pc + 1) lv (.int (-x) :: st) μ) : G pc lv (.int x :: st) μ := by
  obtain ⟨p, e, s, m, args, below, meth, c, cells, slots, Z, A, rfl, hx, hb, hml, hown, hts, hK, hQ, hA, hXO, hX, hcl, hsl⟩ := Γ
  intro H locs ls hP hS hl
  exact lv_ineg hx hb hd (kk H locs ls hP hS hl)
theorem g_i2s (Γ : IsG Y G own cc nL R) {x : Int32} (hd : decode cc pc = .ok (.i2s, 1))  (kk : G (pc + 1) lv (.int (x.toInt16.toInt32) :: st) μ) : G pc lv (.int x :: st) μ := by
  obtain ⟨p, e, s, m, args, below, meth, c, cells, slots, Z, A, rfl, hx, hb, hml, hown, hts, hK, hQ, hA, hXO, hX, hcl, hsl⟩ := Γ
  intro H locs ls hP hS hl
  exact lv_i2s hx hb hd rfl (kk H locs ls hP hS hl)
theorem g_i2c (Γ : IsG Y G own cc nL R) {x : Int32} (hd : decode cc pc = .ok (.i2c, 1))  (kk : G (pc + 1) lv (.int ((x.toUInt32 % 65536).toInt32) :: st) μ) : G pc lv (.int x :: st) μ := by
  obtain ⟨p, e, s, m, args, below, meth, c, cells, slots, Z, A, rfl, hx, hb, hml, hown, hts, hK, hQ, hA, hXO, hX, hcl, hsl⟩ := Γ
  intro H locs ls hP hS hl
  exact lv_i2c hx hb hd rfl (kk H locs ls hP hS hl)
theorem g_i2l (Γ : IsG Y G own cc nL R) {x : Int32} (hd : decode cc pc = .ok (.i2l, 1))  (kk : G (pc + 1) lv (.long (x.toInt64) :: st) μ) : G pc lv (.int x :: st) μ := by
  obtain ⟨p, e, s, m, args, below, meth, c, cells, slots, Z, A, rfl, hx, hb, hml, hown, hts, hK, hQ, hA, hXO, hX, hcl, hsl⟩ := Γ
  intro H locs ls hP hS hl
  exact lv_i2l hx hb hd rfl (kk H locs ls hP hS hl)
theorem g_ladd (Γ : IsG Y G own cc nL R) {x y : Int64} (hd : decode cc pc = .ok (.ladd, 1))  (kk : G (pc + 1) lv (.long (x + y) :: st) μ) : G pc lv (.long y :: .long x :: st) μ := by
  obtain ⟨p, e, s, m, args, below, meth, c, cells, slots, Z, A, rfl, hx, hb, hml, hown, hts, hK, hQ, hA, hXO, hX, hcl, hsl⟩ := Γ
  intro H locs ls hP hS hl
  exact lv_ladd hx hb hd (kk H locs ls hP hS hl)
theorem g_lcmp (Γ : IsG Y G own cc nL R) {x y : Int64} (hd : decode cc pc = .ok (.lcmp, 1))  (kk : G (pc + 1) lv (.int (lg_cmp x y) :: st) μ) : G pc lv (.long y :: .long x :: st) μ := by
  obtain ⟨p, e, s, m, args, below, meth, c, cells, slots, Z, A, rfl, hx, hb, hml, hown, hts, hK, hQ, hA, hXO, hX, hcl, hsl⟩ := Γ
  intro H locs ls hP hS hl
  exact W.lcmp hx hb hd (kk H locs ls hP hS hl)
theorem g_idiv (Γ : IsG Y G own cc nL R) {ρ : Type} {x y : Int32} {F : Int32 → Option ρ} {r : ρ} (hd : decode cc pc = .ok (.idiv, 1))  (hf : bn1 (dvM x y) F = some r) (kk : ∀ v, F v = some r → G (pc + 1) lv (.int v :: st) μ) : G pc lv (.int y :: .int x :: st) μ := by
  obtain ⟨p, e, s, m, args, below, meth, c, cells, slots, Z, A, rfl, hx, hb, hml, hown, hts, hK, hQ, hA, hXO, hX, hcl, hsl⟩ := Γ
  intro H locs ls hP hS hl
  obtain ⟨v, h1, h2⟩ := bn1_i hf
  unfold dvM at h1
  by_cases hy : y = 0
  · rw [if_pos hy] at h1; cases h1
  · rw [if_neg hy] at h1; cases h1
    exact lv_idiv hx hb hd hy (kk _ h2 H locs ls hP hS hl)
theorem g_irem (Γ : IsG Y G own cc nL R) {ρ : Type} {x y : Int32} {F : Int32 → Option ρ} {r : ρ} (hd : decode cc pc = .ok (.irem, 1))  (hf : bn1 (rmM x y) F = some r) (kk : ∀ v, F v = some r → G (pc + 1) lv (.int v :: st) μ) : G pc lv (.int y :: .int x :: st) μ := by
  obtain ⟨p, e, s, m, args, below, meth, c, cells, slots, Z, A, rfl, hx, hb, hml, hown, hts, hK, hQ, hA, hXO, hX, hcl, hsl⟩ := Γ
  intro H locs ls hP hS hl
  obtain ⟨v, h1, h2⟩ := bn1_i hf
  unfold rmM at h1
  by_cases hy : y = 0
  · rw [if_pos hy] at h1; cases h1
  · rw [if_neg hy] at h1; cases h1
    exact lv_irem hx hb hd hy (kk _ h2 H locs ls hP hS hl)
theorem g_dup (Γ : IsG Y G own cc nL R) {v : Value} (hd : decode cc pc = .ok (.dup, 1))  (hv : v.category = 1) (kk : G (pc + 1) lv (v :: v :: st) μ) : G pc lv (v :: st) μ := by
  obtain ⟨p, e, s, m, args, below, meth, c, cells, slots, Z, A, rfl, hx, hb, hml, hown, hts, hK, hQ, hA, hXO, hX, hcl, hsl⟩ := Γ
  intro H locs ls hP hS hl
  exact lv_dup hx hb hd hv (kk H locs ls hP hS hl)
theorem g_pop (Γ : IsG Y G own cc nL R) {v : Value} (hd : decode cc pc = .ok (.pop, 1))  (hv : v.category = 1) (kk : G (pc + 1) lv (st) μ) : G pc lv (v :: st) μ := by
  obtain ⟨p, e, s, m, args, below, meth, c, cells, slots, Z, A, rfl, hx, hb, hml, hown, hts, hK, hQ, hA, hXO, hX, hcl, hsl⟩ := Γ
  intro H locs ls hP hS hl
  exact lv_pop hx hb hd hv (kk H locs ls hP hS hl)
theorem g_dup_x1 (Γ : IsG Y G own cc nL R) {v u : Value} (hd : decode cc pc = .ok (.dup_x1, 1))  (hv : v.category = 1) (hu : u.category = 1) (kk : G (pc + 1) lv (v :: u :: v :: st) μ) : G pc lv (v :: u :: st) μ := by
  obtain ⟨p, e, s, m, args, below, meth, c, cells, slots, Z, A, rfl, hx, hb, hml, hown, hts, hK, hQ, hA, hXO, hX, hcl, hsl⟩ := Γ
  intro H locs ls hP hS hl
  exact lv_dup_x1 hx hb hd hv hu (kk H locs ls hP hS hl)
theorem g_dup2 (Γ : IsG Y G own cc nL R) {v u : Value} (hd : decode cc pc = .ok (.dup2, 1))  (hv : v.category = 1) (hu : u.category = 1) (kk : G (pc + 1) lv (v :: u :: v :: u :: st) μ) : G pc lv (v :: u :: st) μ := by
  obtain ⟨p, e, s, m, args, below, meth, c, cells, slots, Z, A, rfl, hx, hb, hml, hown, hts, hK, hQ, hA, hXO, hX, hcl, hsl⟩ := Γ
  intro H locs ls hP hS hl
  exact lv_dup2_11 hx hb hd hv hu (kk H locs ls hP hS hl)
theorem g_icmp_eq (Γ : IsG Y G own cc nL R) {x y : Int32} {off : Int} {tgt : Nat} {ρ : Type} {A B : Option ρ} {r : ρ} {inst : Decidable (x = y)} (hd : decode cc pc = .ok (.if_icmp .eq off, 3))  (ht : (pc : Int) + off = (tgt : Int)) (hf : @ite _ (x = y) inst A B = some r) (kt : A = some r → G tgt lv st μ) (kf : B = some r → G (pc + 3) lv st μ) : G pc lv (.int y :: .int x :: st) μ := by
  obtain ⟨p, e, s, m, args, below, meth, c, cells, slots, Z, A, rfl, hx, hb, hml, hown, hts, hK, hQ, hA, hXO, hX, hcl, hsl⟩ := Γ
  intro H locs ls hP hS hl
  exact lv_icmp_eq hx hb hd ht (fun h => kt (ite_t h hf) H locs ls hP hS hl) (fun h => kf (ite_f h hf) H locs ls hP hS hl)
theorem g_if_eq (Γ : IsG Y G own cc nL R) {x : Int32} {off : Int} {tgt : Nat} {ρ : Type} {A B : Option ρ} {r : ρ} {inst : Decidable (x = 0)} (hd : decode cc pc = .ok (.ifCond .eq off, 3))  (ht : (pc : Int) + off = (tgt : Int)) (hf : @ite _ (x = 0) inst A B = some r) (kt : A = some r → G tgt lv st μ) (kf : B = some r → G (pc + 3) lv st μ) : G pc lv (.int x :: st) μ := by
  obtain ⟨p, e, s, m, args, below, meth, c, cells, slots, Z, A, rfl, hx, hb, hml, hown, hts, hK, hQ, hA, hXO, hX, hcl, hsl⟩ := Γ
  intro H locs ls hP hS hl
  exact lv_if_eq hx hb hd ht (fun h => kt (ite_t h hf) H locs ls hP hS hl) (fun h => kf (ite_f h hf) H locs ls hP hS hl)
theorem g_icmp_ne (Γ : IsG Y G own cc nL R) {x y : Int32} {off : Int} {tgt : Nat} {ρ : Type} {A B : Option ρ} {r : ρ} {inst : Decidable (x = y)} (hd : decode cc pc = .ok (.if_icmp .ne off, 3))  (ht : (pc : Int) + off = (tgt : Int)) (hf : @ite _ (x = y) inst A B = some r) (kt : B = some r → G tgt lv st μ) (kf : A = some r → G (pc + 3) lv st μ) : G pc lv (.int y :: .int x :: st) μ := by
  obtain ⟨p, e, s, m, args, below, meth, c, cells, slots, Z, A, rfl, hx, hb, hml, hown, hts, hK, hQ, hA, hXO, hX, hcl, hsl⟩ := Γ
  intro H locs ls hP hS hl
  exact lv_icmp_ne hx hb hd ht (fun h => kt (ite_f h hf) H locs ls hP hS hl) (fun h => kf (ite_t h hf) H locs ls hP hS hl)
theorem g_if_ne (Γ : IsG Y G own cc nL R) {x : Int32} {off : Int} {tgt : Nat} {ρ : Type} {A B : Option ρ} {r : ρ} {inst : Decidable (x = 0)} (hd : decode cc pc = .ok (.ifCond .ne off, 3))  (ht : (pc : Int) + off = (tgt : Int)) (hf : @ite _ (x = 0) inst A B = some r) (kt : B = some r → G tgt lv st μ) (kf : A = some r → G (pc + 3) lv st μ) : G pc lv (.int x :: st) μ := by
  obtain ⟨p, e, s, m, args, below, meth, c, cells, slots, Z, A, rfl, hx, hb, hml, hown, hts, hK, hQ, hA, hXO, hX, hcl, hsl⟩ := Γ
  intro H locs ls hP hS hl
  exact lv_if_ne hx hb hd ht (fun h => kt (ite_f h hf) H locs ls hP hS hl) (fun h => kf (ite_t h hf) H locs ls hP hS hl)
theorem g_icmp_lt (Γ : IsG Y G own cc nL R) {x y : Int32} {off : Int} {tgt : Nat} {ρ : Type} {A B : Option ρ} {r : ρ} {inst : Decidable (x < y)} (hd : decode cc pc = .ok (.if_icmp .lt off, 3))  (ht : (pc : Int) + off = (tgt : Int)) (hf : @ite _ (x < y) inst A B = some r) (kt : A = some r → G tgt lv st μ) (kf : B = some r → G (pc + 3) lv st μ) : G pc lv (.int y :: .int x :: st) μ := by
  obtain ⟨p, e, s, m, args, below, meth, c, cells, slots, Z, A, rfl, hx, hb, hml, hown, hts, hK, hQ, hA, hXO, hX, hcl, hsl⟩ := Γ
  intro H locs ls hP hS hl
  exact lv_icmp_lt hx hb hd ht (fun h => kt (ite_t h hf) H locs ls hP hS hl) (fun h => kf (ite_f h hf) H locs ls hP hS hl)
theorem g_if_lt (Γ : IsG Y G own cc nL R) {x : Int32} {off : Int} {tgt : Nat} {ρ : Type} {A B : Option ρ} {r : ρ} {inst : Decidable (x < 0)} (hd : decode cc pc = .ok (.ifCond .lt off, 3))  (ht : (pc : Int) + off = (tgt : Int)) (hf : @ite _ (x < 0) inst A B = some r) (kt : A = some r → G tgt lv st μ) (kf : B = some r → G (pc + 3) lv st μ) : G pc lv (.int x :: st) μ := by
  obtain ⟨p, e, s, m, args, below, meth, c, cells, slots, Z, A, rfl, hx, hb, hml, hown, hts, hK, hQ, hA, hXO, hX, hcl, hsl⟩ := Γ
  intro H locs ls hP hS hl
  exact lv_if_lt hx hb hd ht (fun h => kt (ite_t h hf) H locs ls hP hS hl) (fun h => kf (ite_f h hf) H locs ls hP hS hl)
theorem g_icmp_ge (Γ : IsG Y G own cc nL R) {x y : Int32} {off : Int} {tgt : Nat} {ρ : Type} {A B : Option ρ} {r : ρ} {inst : Decidable (y ≤ x)} (hd : decode cc pc = .ok (.if_icmp .ge off, 3))  (ht : (pc : Int) + off = (tgt : Int)) (hf : @ite _ (y ≤ x) inst A B = some r) (kt : A = some r → G tgt lv st μ) (kf : B = some r → G (pc + 3) lv st μ) : G pc lv (.int y :: .int x :: st) μ := by
  obtain ⟨p, e, s, m, args, below, meth, c, cells, slots, Z, A, rfl, hx, hb, hml, hown, hts, hK, hQ, hA, hXO, hX, hcl, hsl⟩ := Γ
  intro H locs ls hP hS hl
  exact lv_icmp_ge hx hb hd ht (fun h => kt (ite_t h hf) H locs ls hP hS hl) (fun h => kf (ite_f h hf) H locs ls hP hS hl)
theorem g_if_ge (Γ : IsG Y G own cc nL R) {x : Int32} {off : Int} {tgt : Nat} {ρ : Type} {A B : Option ρ} {r : ρ} {inst : Decidable (0 ≤ x)} (hd : decode cc pc = .ok (.ifCond .ge off, 3))  (ht : (pc : Int) + off = (tgt : Int)) (hf : @ite _ (0 ≤ x) inst A B = some r) (kt : A = some r → G tgt lv st μ) (kf : B = some r → G (pc + 3) lv st μ) : G pc lv (.int x :: st) μ := by
  obtain ⟨p, e, s, m, args, below, meth, c, cells, slots, Z, A, rfl, hx, hb, hml, hown, hts, hK, hQ, hA, hXO, hX, hcl, hsl⟩ := Γ
  intro H locs ls hP hS hl
  exact lv_if_ge hx hb hd ht (fun h => kt (ite_t h hf) H locs ls hP hS hl) (fun h => kf (ite_f h hf) H locs ls hP hS hl)
theorem g_icmp_gt (Γ : IsG Y G own cc nL R) {x y : Int32} {off : Int} {tgt : Nat} {ρ : Type} {A B : Option ρ} {r : ρ} {inst : Decidable (y < x)} (hd : decode cc pc = .ok (.if_icmp .gt off, 3))  (ht : (pc : Int) + off = (tgt : Int)) (hf : @ite _ (y < x) inst A B = some r) (kt : A = some r → G tgt lv st μ) (kf : B = some r → G (pc + 3) lv st μ) : G pc lv (.int y :: .int x :: st) μ := by
  obtain ⟨p, e, s, m, args, below, meth, c, cells, slots, Z, A, rfl, hx, hb, hml, hown, hts, hK, hQ, hA, hXO, hX, hcl, hsl⟩ := Γ
  intro H locs ls hP hS hl
  exact lv_icmp_gt hx hb hd ht (fun h => kt (ite_t h hf) H locs ls hP hS hl) (fun h => kf (ite_f h hf) H locs ls hP hS hl)
theorem g_if_gt (Γ : IsG Y G own cc nL R) {x : Int32} {off : Int} {tgt : Nat} {ρ : Type} {A B : Option ρ} {r : ρ} {inst : Decidable (0 < x)} (hd : decode cc pc = .ok (.ifCond .gt off, 3))  (ht : (pc : Int) + off = (tgt : Int)) (hf : @ite _ (0 < x) inst A B = some r) (kt : A = some r → G tgt lv st μ) (kf : B = some r → G (pc + 3) lv st μ) : G pc lv (.int x :: st) μ := by
  obtain ⟨p, e, s, m, args, below, meth, c, cells, slots, Z, A, rfl, hx, hb, hml, hown, hts, hK, hQ, hA, hXO, hX, hcl, hsl⟩ := Γ
  intro H locs ls hP hS hl
  exact lv_if_gt hx hb hd ht (fun h => kt (ite_t h hf) H locs ls hP hS hl) (fun h => kf (ite_f h hf) H locs ls hP hS hl)
theorem g_icmp_le (Γ : IsG Y G own cc nL R) {x y : Int32} {off : Int} {tgt : Nat} {ρ : Type} {A B : Option ρ} {r : ρ} {inst : Decidable (x ≤ y)} (hd : decode cc pc = .ok (.if_icmp .le off, 3))  (ht : (pc : Int) + off = (tgt : Int)) (hf : @ite _ (x ≤ y) inst A B = some r) (kt : A = some r → G tgt lv st μ) (kf : B = some r → G (pc + 3) lv st μ) : G pc lv (.int y :: .int x :: st) μ := by
  obtain ⟨p, e, s, m, args, below, meth, c, cells, slots, Z, A, rfl, hx, hb, hml, hown, hts, hK, hQ, hA, hXO, hX, hcl, hsl⟩ := Γ
  intro H locs ls hP hS hl
  exact lv_icmp_le hx hb hd ht (fun h => kt (ite_t h hf) H locs ls hP hS hl) (fun h => kf (ite_f h hf) H locs ls hP hS hl)
theorem g_if_le (Γ : IsG Y G own cc nL R) {x : Int32} {off : Int} {tgt : Nat} {ρ : Type} {A B : Option ρ} {r : ρ} {inst : Decidable (x ≤ 0)} (hd : decode cc pc = .ok (.ifCond .le off, 3))  (ht : (pc : Int) + off = (tgt : Int)) (hf : @ite _ (x ≤ 0) inst A B = some r) (kt : A = some r → G tgt lv st μ) (kf : B = some r → G (pc + 3) lv st μ) : G pc lv (.int x :: st) μ := by
  obtain ⟨p, e, s, m, args, below, meth, c, cells, slots, Z, A, rfl, hx, hb, hml, hown, hts, hK, hQ, hA, hXO, hX, hcl, hsl⟩ := Γ
  intro H locs ls hP hS hl
  exact lv_if_le hx hb hd ht (fun h => kt (ite_t h hf) H locs ls hP hS hl) (fun h => kf (ite_f h hf) H locs ls hP hS hl)
theorem g_goto (Γ : IsG Y G own cc nL R) {off : Int} {tgt : Nat} (hd : decode cc pc = .ok (.goto off, 3))  (ht : (pc : Int) + off = (tgt : Int)) (kk : G tgt lv st μ) : G pc lv st μ := by
  obtain ⟨p, e, s, m, args, below, meth, c, cells, slots, Z, A, rfl, hx, hb, hml, hown, hts, hK, hQ, hA, hXO, hX, hcl, hsl⟩ := Γ
  intro H locs ls hP hS hl
  exact lv_goto hx hb hd ht (kk H locs ls hP hS hl)
theorem g_icmp_eq_t (Γ : IsG Y G own cc nL R) {x y : Int32} {off : Int} {tgt : Nat} (hd : decode cc pc = .ok (.if_icmp .eq off, 3))  (ht : (pc : Int) + off = (tgt : Int)) (hc : x = y) (kk : G tgt lv st μ) : G pc lv (.int y :: .int x :: st) μ := by
  obtain ⟨p, e, s, m, args, below, meth, c, cells, slots, Z, A, rfl, hx, hb, hml, hown, hts, hK, hQ, hA, hXO, hX, hcl, hsl⟩ := Γ
  intro H locs ls hP hS hl
  exact lv_icmp_eq hx hb hd ht (fun _ => kk H locs ls hP hS hl) (fun h => absurd hc h)
theorem g_icmp_eq_f (Γ : IsG Y G own cc nL R) {x y : Int32} {off : Int} {tgt : Nat} (hd : decode cc pc = .ok (.if_icmp .eq off, 3))  (ht : (pc : Int) + off = (tgt : Int)) (hc : ¬ x = y) (kk : G (pc + 3) lv st μ) : G pc lv (.int y :: .int x :: st) μ := by
  obtain ⟨p, e, s, m, args, below, meth, c, cells, slots, Z, A, rfl, hx, hb, hml, hown, hts, hK, hQ, hA, hXO, hX, hcl, hsl⟩ := Γ
  intro H locs ls hP hS hl
  exact lv_icmp_eq hx hb hd ht (fun h => absurd h hc) (fun _ => kk H locs ls hP hS hl)
theorem g_if_eq_t (Γ : IsG Y G own cc nL R) {x : Int32} {off : Int} {tgt : Nat} (hd : decode cc pc = .ok (.ifCond .eq off, 3))  (ht : (pc : Int) + off = (tgt : Int)) (hc : x = 0) (kk : G tgt lv st μ) : G pc lv (.int x :: st) μ := by
  obtain ⟨p, e, s, m, args, below, meth, c, cells, slots, Z, A, rfl, hx, hb, hml, hown, hts, hK, hQ, hA, hXO, hX, hcl, hsl⟩ := Γ
  intro H locs ls hP hS hl
  exact lv_if_eq hx hb hd ht (fun _ => kk H locs ls hP hS hl) (fun h => absurd hc h)
theorem g_if_eq_f (Γ : IsG Y G own cc nL R) {x : Int32} {off : Int} {tgt : Nat} (hd : decode cc pc = .ok (.ifCond .eq off, 3))  (ht : (pc : Int) + off = (tgt : Int)) (hc : ¬ x = 0) (kk : G (pc + 3) lv st μ) : G pc lv (.int x :: st) μ := by
  obtain ⟨p, e, s, m, args, below, meth, c, cells, slots, Z, A, rfl, hx, hb, hml, hown, hts, hK, hQ, hA, hXO, hX, hcl, hsl⟩ := Γ
  intro H locs ls hP hS hl
  exact lv_if_eq hx hb hd ht (fun h => absurd h hc) (fun _ => kk H locs ls hP hS hl)
theorem g_icmp_ne_t (Γ : IsG Y G own cc nL R) {x y : Int32} {off : Int} {tgt : Nat} (hd : decode cc pc = .ok (.if_icmp .ne off, 3))  (ht : (pc : Int) + off = (tgt : Int)) (hc : ¬ x = y) (kk : G tgt lv st μ) : G pc lv (.int y :: .int x :: st) μ := by
  obtain ⟨p, e, s, m, args, below, meth, c, cells, slots, Z, A, rfl, hx, hb, hml, hown, hts, hK, hQ, hA, hXO, hX, hcl, hsl⟩ := Γ
  intro H locs ls hP hS hl
  exact lv_icmp_ne hx hb hd ht (fun _ => kk H locs ls hP hS hl) (fun h => absurd h hc)
theorem g_icmp_ne_f (Γ : IsG Y G own cc nL R) {x y : Int32} {off : Int} {tgt : Nat} (hd : decode cc pc = .ok (.if_icmp .ne off, 3))  (ht : (pc : Int) + off = (tgt : Int)) (hc : x = y) (kk : G (pc + 3) lv st μ) : G pc lv (.int y :: .int x :: st) μ := by
  obtain ⟨p, e, s, m, args, below, meth, c, cells, slots, Z, A, rfl, hx, hb, hml, hown, hts, hK, hQ, hA, hXO, hX, hcl, hsl⟩ := Γ
  intro H locs ls hP hS hl
  exact lv_icmp_ne hx hb hd ht (fun h => absurd hc h) (fun _ => kk H locs ls hP hS hl)
theorem g_if_ne_t (Γ : IsG Y G own cc nL R) {x : Int32} {off : Int} {tgt : Nat} (hd : decode cc pc = .ok (.ifCond .ne off, 3))  (ht : (pc : Int) + off = (tgt : Int)) (hc : ¬ x = 0) (kk : G tgt lv st μ) : G pc lv (.int x :: st) μ := by
  obtain ⟨p, e, s, m, args, below, meth, c, cells, slots, Z, A, rfl, hx, hb, hml, hown, hts, hK, hQ, hA, hXO, hX, hcl, hsl⟩ := Γ
  intro H locs ls hP hS hl
  exact lv_if_ne hx hb hd ht (fun _ => kk H locs ls hP hS hl) (fun h => absurd h hc)
theorem g_if_ne_f (Γ : IsG Y G own cc nL R) {x : Int32} {off : Int} {tgt : Nat} (hd : decode cc pc = .ok (.ifCond .ne off, 3))  (ht : (pc : Int) + off = (tgt : Int)) (hc : x = 0) (kk : G (pc + 3) lv st μ) : G pc lv (.int x :: st) μ := by
  obtain ⟨p, e, s, m, args, below, meth, c, cells, slots, Z, A, rfl, hx, hb, hml, hown, hts, hK, hQ, hA, hXO, hX, hcl, hsl⟩ := Γ
  intro H locs ls hP hS hl
  exact lv_if_ne hx hb hd ht (fun h => absurd hc h) (fun _ => kk H locs ls hP hS hl)
theorem g_icmp_lt_t (Γ : IsG Y G own cc nL R) {x y : Int32} {off : Int} {tgt : Nat} (hd : decode cc pc = .ok (.if_icmp .lt off, 3))  (ht : (pc : Int) + off = (tgt : Int)) (hc : x < y) (kk : G tgt lv st μ) : G pc lv (.int y :: .int x :: st) μ := by
  obtain ⟨p, e, s, m, args, below, meth, c, cells, slots, Z, A, rfl, hx, hb, hml, hown, hts, hK, hQ, hA, hXO, hX, hcl, hsl⟩ := Γ
  intro H locs ls hP hS hl
  exact lv_icmp_lt hx hb hd ht (fun _ => kk H locs ls hP hS hl) (fun h => absurd hc h)
theorem g_icmp_lt_f (Γ : IsG Y G own cc nL R) {x y : Int32} {off : Int} {tgt : Nat} (hd : decode cc pc = .ok (.if_icmp .lt off, 3))  (ht : (pc : Int) + off = (tgt : Int)) (hc : ¬ x < y) (kk : G (pc + 3) lv st μ) : G pc lv (.int y :: .int x :: st) μ := by
  obtain ⟨p, e, s, m, args, below, meth, c, cells, slots, Z, A, rfl, hx, hb, hml, hown, hts, hK, hQ, hA, hXO, hX, hcl, hsl⟩ := Γ
  intro H locs ls hP hS hl
  exact lv_icmp_lt hx hb hd ht (fun h => absurd h hc) (fun _ => kk H locs ls hP hS hl)
theorem g_if_lt_t (Γ : IsG Y G own cc nL R) {x : Int32} {off : Int} {tgt : Nat} (hd : decode cc pc = .ok (.ifCond .lt off, 3))  (ht : (pc : Int) + off = (tgt : Int)) (hc : x < 0) (kk : G tgt lv st μ) : G pc lv (.int x :: st) μ := by
  obtain ⟨p, e, s, m, args, below, meth, c, cells, slots, Z, A, rfl, hx, hb, hml, hown, hts, hK, hQ, hA, hXO, hX, hcl, hsl⟩ := Γ
  intro H locs ls hP hS hl
  exact lv_if_lt hx hb hd ht (fun _ => kk H locs ls hP hS hl) (fun h => absurd hc h)
theorem g_if_lt_f (Γ : IsG Y G own cc nL R) {x : Int32} {off : Int} {tgt : Nat} (hd : decode cc pc = .ok (.ifCond .lt off, 3))  (ht : (pc : Int) + off = (tgt : Int)) (hc : ¬ x < 0) (kk : G (pc + 3) lv st μ) : G pc lv (.int x :: st) μ := by
  obtain ⟨p, e, s, m, args, below, meth, c, cells, slots, Z, A, rfl, hx, hb, hml, hown, hts, hK, hQ, hA, hXO, hX, hcl, hsl⟩ := Γ
  intro H locs ls hP hS hl
  exact lv_if_lt hx hb hd ht (fun h => absurd h hc) (fun _ => kk H locs ls hP hS hl)
theorem g_icmp_ge_t (Γ : IsG Y G own cc nL R) {x y : Int32} {off : Int} {tgt : Nat} (hd : decode cc pc = .ok (.if_icmp .ge off, 3))  (ht : (pc : Int) + off = (tgt : Int)) (hc : y ≤ x) (kk : G tgt lv st μ) : G pc lv (.int y :: .int x :: st) μ := by
  obtain ⟨p, e, s, m, args, below, meth, c, cells, slots, Z, A, rfl, hx, hb, hml, hown, hts, hK, hQ, hA, hXO, hX, hcl, hsl⟩ := Γ
  intro H locs ls hP hS hl
  exact lv_icmp_ge hx hb hd ht (fun _ => kk H locs ls hP hS hl) (fun h => absurd hc h)
theorem g_icmp_ge_f (Γ : IsG Y G own cc nL R) {x y : Int32} {off : Int} {tgt : Nat} (hd : decode cc pc = .ok (.if_icmp .ge off, 3))  (ht : (pc : Int) + off = (tgt : Int)) (hc : ¬ y ≤ x) (kk : G (pc + 3) lv st μ) : G pc lv (.int y :: .int x :: st) μ := by
  obtain ⟨p, e, s, m, args, below, meth, c, cells, slots, Z, A, rfl, hx, hb, hml, hown, hts, hK, hQ, hA, hXO, hX, hcl, hsl⟩ := Γ
  intro H locs ls hP hS hl
  exact lv_icmp_ge hx hb hd ht (fun h => absurd h hc) (fun _ => kk H locs ls hP hS hl)
theorem g_if_ge_t (Γ : IsG Y G own cc nL R) {x : Int32} {off : Int} {tgt : Nat} (hd : decode cc pc = .ok (.ifCond .ge off, 3))  (ht : (pc : Int) + off = (tgt : Int)) (hc : 0 ≤ x) (kk : G tgt lv st μ) : G pc lv (.int x :: st) μ := by
  obtain ⟨p, e, s, m, args, below, meth, c, cells, slots, Z, A, rfl, hx, hb, hml, hown, hts, hK, hQ, hA, hXO, hX, hcl, hsl⟩ := Γ
  intro H locs ls hP hS hl
  exact lv_if_ge hx hb hd ht (fun _ => kk H locs ls hP hS hl) (fun h => absurd hc h)
theorem g_if_ge_f (Γ : IsG Y G own cc nL R) {x : Int32} {off : Int} {tgt : Nat} (hd : decode cc pc = .ok (.ifCond .ge off, 3))  (ht : (pc : Int) + off = (tgt : Int)) (hc : ¬ 0 ≤ x) (kk : G (pc + 3) lv st μ) : G pc lv (.int x :: st) μ := by
  obtain ⟨p, e, s, m, args, below, meth, c, cells, slots, Z, A, rfl, hx, hb, hml, hown, hts, hK, hQ, hA, hXO, hX, hcl, hsl⟩ := Γ
  intro H locs ls hP hS hl
  exact lv_if_ge hx hb hd ht (fun h => absurd h hc) (fun _ => kk H locs ls hP hS hl)
theorem g_icmp_gt_t (Γ : IsG Y G own cc nL R) {x y : Int32} {off : Int} {tgt : Nat} (hd : decode cc pc = .ok (.if_icmp .gt off, 3))  (ht : (pc : Int) + off = (tgt : Int)) (hc : y < x) (kk : G tgt lv st μ) : G pc lv (.int y :: .int x :: st) μ := by
  obtain ⟨p, e, s, m, args, below, meth, c, cells, slots, Z, A, rfl, hx, hb, hml, hown, hts, hK, hQ, hA, hXO, hX, hcl, hsl⟩ := Γ
  intro H locs ls hP hS hl
  exact lv_icmp_gt hx hb hd ht (fun _ => kk H locs ls hP hS hl) (fun h => absurd hc h)
theorem g_icmp_gt_f (Γ : IsG Y G own cc nL R) {x y : Int32} {off : Int} {tgt : Nat} (hd : decode cc pc = .ok (.if_icmp .gt off, 3))  (ht : (pc : Int) + off = (tgt : Int)) (hc : ¬ y < x) (kk : G (pc + 3) lv st μ) : G pc lv (.int y :: .int x :: st) μ := by
  obtain ⟨p, e, s, m, args, below, meth, c, cells, slots, Z, A, rfl, hx, hb, hml, hown, hts, hK, hQ, hA, hXO, hX, hcl, hsl⟩ := Γ
  intro H locs ls hP hS hl
  exact lv_icmp_gt hx hb hd ht (fun h => absurd h hc) (fun _ => kk H locs ls hP hS hl)
theorem g_if_gt_t (Γ : IsG Y G own cc nL R) {x : Int32} {off : Int} {tgt : Nat} (hd : decode cc pc = .ok (.ifCond .gt off, 3))  (ht : (pc : Int) + off = (tgt : Int)) (hc : 0 < x) (kk : G tgt lv st μ) : G pc lv (.int x :: st) μ := by
  obtain ⟨p, e, s, m, args, below, meth, c, cells, slots, Z, A, rfl, hx, hb, hml, hown, hts, hK, hQ, hA, hXO, hX, hcl, hsl⟩ := Γ
  intro H locs ls hP hS hl
  exact lv_if_gt hx hb hd ht (fun _ => kk H locs ls hP hS hl) (fun h => absurd hc h)
theorem g_if_gt_f (Γ : IsG Y G own cc nL R) {x : Int32} {off : Int} {tgt : Nat} (hd : decode cc pc = .ok (.ifCond .gt off, 3))  (ht : (pc : Int) + off = (tgt : Int)) (hc : ¬ 0 < x) (kk : G (pc + 3) lv st μ) : G pc lv (.int x :: st) μ := by
  obtain ⟨p, e, s, m, args, below, meth, c, cells, slots, Z, A, rfl, hx, hb, hml, hown, hts, hK, hQ, hA, hXO, hX, hcl, hsl⟩ := Γ
  intro H locs ls hP hS hl
  exact lv_if_gt hx hb hd ht (fun h => absurd h hc) (fun _ => kk H locs ls hP hS hl)
theorem g_icmp_le_t (Γ : IsG Y G own cc nL R) {x y : Int32} {off : Int} {tgt : Nat} (hd : decode cc pc = .ok (.if_icmp .le off, 3))  (ht : (pc : Int) + off = (tgt : Int)) (hc : x ≤ y) (kk : G tgt lv st μ) : G pc lv (.int y :: .int x :: st) μ := by
  obtain ⟨p, e, s, m, args, below, meth, c, cells, slots, Z, A, rfl, hx, hb, hml, hown, hts, hK, hQ, hA, hXO, hX, hcl, hsl⟩ := Γ
  intro H locs ls hP hS hl
  exact lv_icmp_le hx hb hd ht (fun _ => kk H locs ls hP hS hl) (fun h => absurd hc h)
theorem g_icmp_le_f (Γ : IsG Y G own cc nL R) {x y : Int32} {off : Int} {tgt : Nat} (hd : decode cc pc = .ok (.if_icmp .le off, 3))  (ht : (pc : Int) + off = (tgt : Int)) (hc : ¬ x ≤ y) (kk : G (pc + 3) lv st μ) : G pc lv (.int y :: .int x :: st) μ := by
  obtain ⟨p, e, s, m, args, below, meth, c, cells, slots, Z, A, rfl, hx, hb, hml, hown, hts, hK, hQ, hA, hXO, hX, hcl, hsl⟩ := Γ
  intro H locs ls hP hS hl
  exact lv_icmp_le hx hb hd ht (fun h => absurd h hc) (fun _ => kk H locs ls hP hS hl)
theorem g_if_le_t (Γ : IsG Y G own cc nL R) {x : Int32} {off : Int} {tgt : Nat} (hd : decode cc pc = .ok (.ifCond .le off, 3))  (ht : (pc : Int) + off = (tgt : Int)) (hc : x ≤ 0) (kk : G tgt lv st μ) : G pc lv (.int x :: st) μ := by
  obtain ⟨p, e, s, m, args, below, meth, c, cells, slots, Z, A, rfl, hx, hb, hml, hown, hts, hK, hQ, hA, hXO, hX, hcl, hsl⟩ := Γ
  intro H locs ls hP hS hl
  exact lv_if_le hx hb hd ht (fun _ => kk H locs ls hP hS hl) (fun h => absurd hc h)
theorem g_if_le_f (Γ : IsG Y G own cc nL R) {x : Int32} {off : Int} {tgt : Nat} (hd : decode cc pc = .ok (.ifCond .le off, 3))  (ht : (pc : Int) + off = (tgt : Int)) (hc : ¬ x ≤ 0) (kk : G (pc + 3) lv st μ) : G pc lv (.int x :: st) μ := by
  obtain ⟨p, e, s, m, args, below, meth, c, cells, slots, Z, A, rfl, hx, hb, hml, hown, hts, hK, hQ, hA, hXO, hX, hcl, hsl⟩ := Γ
  intro H locs ls hP hS hl
  exact lv_if_le hx hb hd ht (fun h => absurd h hc) (fun _ => kk H locs ls hP hS hl)
theorem g_table (Γ : IsG Y G own cc nL R) {dflt lo hi : Int} {offs : Array Int} {len : Nat} {x : Int32} (hd : decode cc pc = .ok (.tableswitch dflt lo hi offs, len))  (kd : (x.toInt < lo ∨ hi < x.toInt) → ∀ tgt : Nat, (pc : Int) + dflt = (tgt : Int) → G tgt lv st μ) (kk : ∀ (off : Int) (tgt : Nat), ¬ x.toInt < lo → ¬ hi < x.toInt → offs[(x.toInt - lo).toNat]? = some off → (pc : Int) + off = (tgt : Int) → G tgt lv st μ) (tg : Nat) (ht : (pc : Int) + dflt = (tg : Int)) (hof : ∀ i : Nat, i < offs.size → ∃ (off : Int) (tgt : Nat), offs[i]? = some off ∧ (pc : Int) + off = (tgt : Int)) (hsz : offs.size = (hi - lo + 1).toNat) : G pc lv (.int x :: st) μ := by
  obtain ⟨p, e, s, m, args, below, meth, c, cells, slots, Z, A, rfl, hx, hb, hml, hown, hts, hK, hQ, hA, hXO, hX, hcl, hsl⟩ := Γ
  intro H locs ls hP hS hl
  by_cases h1 : x.toInt < lo
  · exact lv_tableOut hx hb hd (Or.inl h1) ht (kd (Or.inl h1) tg ht H locs ls hP hS hl)
  · by_cases h2 : hi < x.toInt
    · exact lv_tableOut hx hb hd (Or.inr h2) ht (kd (Or.inr h2) tg ht H locs ls hP hS hl)
    · obtain ⟨off, tgt, e1, e2⟩ := hof (x.toInt - lo).toNat (by omega)
      exact lv_tableIn hx hb hd h1 h2 e1 e2 (kk off tgt h1 h2 e1 e2 H locs ls hP hS hl)
theorem g_tableIn (Γ : IsG Y G own cc nL R) {dflt lo hi : Int} {offs : Array Int} {len : Nat} {x : Int32} {off : Int} {tgt : Nat} (hd : decode cc pc = .ok (.tableswitch dflt lo hi offs, len))  (h1 : ¬ x.toInt < lo) (h2 : ¬ hi < x.toInt) (ho : offs[(x.toInt - lo).toNat]? = some off) (ht : (pc : Int) + off = (tgt : Int)) (kk : G tgt lv st μ) : G pc lv (.int x :: st) μ := by
  obtain ⟨p, e, s, m, args, below, meth, c, cells, slots, Z, A, rfl, hx, hb, hml, hown, hts, hK, hQ, hA, hXO, hX, hcl, hsl⟩ := Γ
  intro H locs ls hP hS hl
  exact lv_tableIn hx hb hd h1 h2 ho ht (kk H locs ls hP hS hl)
theorem g_tableOut (Γ : IsG Y G own cc nL R) {dflt lo hi : Int} {offs : Array Int} {len : Nat} {x : Int32} {tgt : Nat} (hd : decode cc pc = .ok (.tableswitch dflt lo hi offs, len))  (h : x.toInt < lo ∨ hi < x.toInt) (ht : (pc : Int) + dflt = (tgt : Int)) (kk : G tgt lv st μ) : G pc lv (.int x :: st) μ := by
  obtain ⟨p, e, s, m, args, below, meth, c, cells, slots, Z, A, rfl, hx, hb, hml, hown, hts, hK, hQ, hA, hXO, hX, hcl, hsl⟩ := Γ
  intro H locs ls hP hS hl
  exact lv_tableOut hx hb hd h ht (kk H locs ls hP hS hl)
theorem g_lookup (Γ : IsG Y G own cc nL R) {dflt : Int} {ps : Array (Int × Int)} {len : Nat} {x : Int32} {off : Int} {tgt : Nat} (hd : decode cc pc = .ok (.lookupswitch dflt ps, len))  (hp : (ps.toList.zip (ps.toList.drop 1)).all (fun (a, next) => a.1 < next.1) = true) (ho : Op.lookupswitch.offset ps.toList dflt x.toInt = off) (ht : (pc : Int) + off = (tgt : Int)) (kk : G tgt lv st μ) : G pc lv (.int x :: st) μ := by
  obtain ⟨p, e, s, m, args, below, meth, c, cells, slots, Z, A, rfl, hx, hb, hml, hown, hts, hK, hQ, hA, hXO, hX, hcl, hsl⟩ := Γ
  intro H locs ls hP hS hl
  exact lv_lookup hx hb hd hp ho ht (kk H locs ls hP hS hl)
theorem g_sub (Γ : IsG Y G own cc nL R) (ks : List Nat)   (hlv : lv_pick lv ks = lv') (kk : G pc lv' st μ) : G pc lv st μ := by
  obtain ⟨p, e, s, m, args, below, meth, c, cells, slots, Z, A, rfl, hx, hb, hml, hown, hts, hK, hQ, hA, hXO, hX, hcl, hsl⟩ := Γ
  intro H locs ls hP hS hl
  exact kk H locs ls hP hS (lv_sub hl ks hlv)
theorem g_get (Γ : IsG Y G own cc nL R) {i ci k index : Nat} {fs : (Nat → Int32) → List Value} {v : Value} (hd : decode cc pc = .ok (.getfield index, 3))  (hO : Obj Y i ci fs) (hF : FR own index ci k) (hv : (fs (μ i))[k]? = some v) (kk : G (pc + 3) lv (v :: st) μ) : G pc lv (.ref (sq Y i) :: st) μ := by
  obtain ⟨p, e, s, m, args, below, meth, c, cells, slots, Z, A, rfl, hx, hb, hml, hown, hts, hK, hQ, hA, hXO, hX, hcl, hsl⟩ := Γ
  intro H locs ls hP hS hl
  obtain ⟨C, T, N, f1, f2, f3, f4⟩ := hF
  exact va_get (ref := (T k).1) hx hb hts f3 hown hK hP i (by rw [wld_get hO.1, hO.2]) f1 k f2 (hts _ f4) (fun _ h => h) hv hd (kk H locs ls hP hS hl)
theorem g_put (Γ : IsG Y G own cc nL R) {i ci k index : Nat} {fs : (Nat → Int32) → List Value} {x : Int32} (hd : decode cc pc = .ok (.putfield index, 3))  (hO : Obj Y i ci fs) (hF : FW own index ci k .int) (hl0 : k < (fs (μ i)).length) (hs : (fs (μ i)).set k (.int x) = fs (upd (μ i) k x)) (kk : G (pc + 3) lv (st) (mset μ i k x)) : G pc lv (.int x :: .ref (sq Y i) :: st) μ := by
  obtain ⟨p, e, s, m, args, below, meth, c, cells, slots, Z, A, rfl, hx, hb, hml, hown, hts, hK, hQ, hA, hXO, hX, hcl, hsl⟩ := Γ
  intro H locs ls hP hS hl
  obtain ⟨C, T, N, ty0, f1, f2, f3, f4, f5, f6, f7, f8⟩ := hF
  refine va_put (ref := (T k).1) hx hb hts f3 ty0 f5 f6 hown hK hP (wld_D hQ μ) hS i (by rw [wld_get hO.1, hO.2]) f1 k f2 (hts _ f4) (fun _ h => h) f7 f8 rfl rfl hl0 hd (fun H1 locs1 hP1 _ hS1 => kk H1 locs1 ls ?_ hS1 hl)
  rw [hs, ← hO.2, wld_set hO.1] at hP1
  exact hP1
theorem g_putz (Γ : IsG Y G own cc nL R) {i ci k index : Nat} {fs : (Nat → Int32) → List Value} {x : Int32} (hd : decode cc pc = .ok (.putfield index, 3))  (hO : Obj Y i ci fs) (hF : FW own index ci k .boolean) (hx01 : x = 0 ∨ x = 1) (hl0 : k < (fs (μ i)).length) (hs : (fs (μ i)).set k (.int x) = fs (upd (μ i) k x)) (kk : G (pc + 3) lv (st) (mset μ i k x)) : G pc lv (.int x :: .ref (sq Y i) :: st) μ := by
  obtain ⟨p, e, s, m, args, below, meth, c, cells, slots, Z, A, rfl, hx, hb, hml, hown, hts, hK, hQ, hA, hXO, hX, hcl, hsl⟩ := Γ
  intro H locs ls hP hS hl
  obtain ⟨C, T, N, ty0, f1, f2, f3, f4, f5, f6, f7, f8⟩ := hF
  refine va_put (ref := (T k).1) hx hb hts f3 ty0 f5 f6 hown hK hP (wld_D hQ μ) hS i (by rw [wld_get hO.1, hO.2]) f1 k f2 (hts _ f4) (fun _ h => h) f7 f8 (by rcases hx01 with rfl | rfl <;> rfl) (by rcases hx01 with rfl | rfl <;> rfl) hl0 hd (fun H1 locs1 hP1 _ hS1 => kk H1 locs1 ls ?_ hS1 hl)
  rw [hs, ← hO.2, wld_set hO.1] at hP1
  exact hP1
theorem g_iald (Γ : IsG Y G own cc nL R) {ρ : Type} {i n : Nat} {x : Int32} {F : Int32 → Option ρ} {r : ρ} (hd : decode cc pc = .ok (.iaload, 1))  (hO : IArr Y i n) (hf : bn1 (ldM (μ i) n x) F = some r) (kk : ∀ v, F v = some r → G (pc + 1) lv (.int v :: st) μ) : G pc lv (.int x :: .ref (sq Y i) :: st) μ := by
  obtain ⟨p, e, s, m, args, below, meth, c, cells, slots, Z, A, rfl, hx, hb, hml, hown, hts, hK, hQ, hA, hXO, hX, hcl, hsl⟩ := Γ
  intro H locs ls hP hS hl
  obtain ⟨v, h1, h2⟩ := bn1_i hf
  unfold ldM at h1
  obtain ⟨o1, cA, t0, o2, o3⟩ := hO
  by_cases hin : x < 0 ∨ n ≤ x.toNatClampNeg
  · rw [if_pos hin] at h1; cases h1
  · rw [if_neg hin] at h1; cases h1
    exact va_iald hx hb hK hP i t0 (by rw [wld_get o1, o3]) o2 (show vp_in x n from hin) hd (kk _ h2 H locs ls hP hS hl)
theorem g_iast (Γ : IsG Y G own cc nL R) {ρ : Type} {i n : Nat} {x v : Int32} {F : Mem → Option ρ} {r : ρ} (hd : decode cc pc = .ok (.iastore, 1))  (hO : IArr Y i n) (hf : bn1 (stM μ i n x v) F = some r) (kk : ∀ m1, F m1 = some r → G (pc + 1) lv st m1) : G pc lv (.int v :: .int x :: .ref (sq Y i) :: st) μ := by
  obtain ⟨p, e, s, m, args, below, meth, c, cells, slots, Z, A, rfl, hx, hb, hml, hown, hts, hK, hQ, hA, hXO, hX, hcl, hsl⟩ := Γ
  intro H locs ls hP hS hl
  obtain ⟨m1, h1, h2⟩ := bn1_i hf
  unfold stM at h1
  obtain ⟨o1, cA, t0, o2, o3⟩ := hO
  by_cases hin : x < 0 ∨ n ≤ x.toNatClampNeg
  · rw [if_pos hin] at h1; cases h1
  · rw [if_neg hin] at h1; cases h1
    refine va_iast hx hb hK hP (wld_D hQ μ) hS i t0 (by rw [wld_get o1, o3]) o2 (show vp_in x n from hin) hd (fun H1 locs1 hP1 _ hS1 => kk _ h2 H1 locs1 ls ?_ hS1 hl)
    rw [← o3, wld_set o1] at hP1
    exact hP1
theorem g_alen (Γ : IsG Y G own cc nL R) {i n : Nat} {v : Int32} (hd : decode cc pc = .ok (.arraylength, 1))  (hO : IArr Y i n) (hv : Int32.ofNat n = v) (kk : G (pc + 1) lv (.int v :: st) μ) : G pc lv (.ref (sq Y i) :: st) μ := by
  obtain ⟨p, e, s, m, args, below, meth, c, cells, slots, Z, A, rfl, hx, hb, hml, hown, hts, hK, hQ, hA, hXO, hX, hcl, hsl⟩ := Γ
  intro H locs ls hP hS hl
  obtain ⟨o1, cA, t0, o2, o3⟩ := hO
  exact va_alen hx hb hK hP i t0 (by rw [wld_get o1, o3]) o2 hv hd (kk H locs ls hP hS hl)
theorem g_aald (Γ : IsG Y G own cc nL R) {ρ : Type} {i n : Nat} {g : Nat → Nat} {x : Int32} {F : Nat → Option ρ} {r : ρ} (hd : decode cc pc = .ok (.aaload, 1))  (hO : RArr Y i n g) (hf : bn1 (rdM n x) F = some r) (kk : ∀ j, j < n → F j = some r → G (pc + 1) lv (.ref (sq Y (g j)) :: st) μ) : G pc lv (.int x :: .ref (sq Y i) :: st) μ := by
  obtain ⟨p, e, s, m, args, below, meth, c, cells, slots, Z, A, rfl, hx, hb, hml, hown, hts, hK, hQ, hA, hXO, hX, hcl, hsl⟩ := Γ
  intro H locs ls hP hS hl
  obtain ⟨j, h1, h2⟩ := bn1_i hf
  unfold rdM at h1
  obtain ⟨o1, cA, t0, C, o2, o3⟩ := hO
  by_cases hin : x < 0 ∨ n ≤ x.toNatClampNeg
  · rw [if_pos hin] at h1; cases h1
  · rw [if_neg hin] at h1; cases h1
    exact va_aldq (f := fun k => some (sq Y (g k))) hx hb hK hP i t0 (by rw [wld_get o1, o3]) o2 (show vp_in x n from hin) hd (kk _ (Nat.not_le.mp fun z => hin (Or.inr z)) h2 H locs ls hP hS hl)
theorem g_copy (Γ : IsG Y G own cc nL R) {ρ : Type} {index i ni j nj : Nat} {sp dp n : Int32} {F : Mem → Option ρ} {r : ρ} (hd : decode cc pc = .ok (.invokestatic index, 3))  (hi : IArr Y i ni) (hj : IArr Y j nj) (h1 : Cond.methodLink own index arraycopyName ∈ WL) (h2 : Cond.native arraycopyName ∈ WL) (h3 : Cond.static arraycopyName ∈ WL) (h4 : Cond.initialized "java/lang/System" ∈ WL) (hfr : 1 ≤ R.frames) (hlo : (st.map fun v => v.category).sum + (nativeFrameWords "java/lang/System" "arraycopy" 5 + 11) ≤ R.locals) (hf : bn1 (cpM μ i ni sp j nj dp n) F = some r) (kk : ∀ m1, F m1 = some r → G (pc + 3) lv st m1) : G pc lv (.int n :: .int dp :: .ref (sq Y j) :: .int sp :: .ref (sq Y i) :: st) μ := by
  obtain ⟨p, e, s, m, args, below, meth, c, cells, slots, Z, A, rfl, hx, hb, hml, hown, hts, hK, hQ, hA, hXO, hX, hcl, hsl⟩ := Γ
  intro H locs ls hP hS hl
  obtain ⟨m1, g1, g2⟩ := bn1_i hf
  unfold cpM at g1
  obtain ⟨o1, cA, t0, o2, o3⟩ := hi
  obtain ⟨p1, cB, t1, p2, p3⟩ := hj
  by_cases hin : sp < 0 ∨ dp < 0 ∨ n < 0 ∨ ni < sp.toNatClampNeg + n.toNatClampNeg ∨ nj < dp.toNatClampNeg + n.toNatClampNeg
  · rw [if_pos hin] at g1; cases g1
  · rw [if_neg hin] at g1; cases g1
    simp only [not_or, Nat.not_lt] at hin
    obtain ⟨a1, a2, a3, a4, a5⟩ := hin
    refine va_copyi hx hb (hml.trans hl.1.symm) hown (hts _ h1) (hts _ h2) (hts _ h3) (hts _ h4) hK hP (wld_D hQ μ) hS i j t0 t1 (by rw [wld_get o1, o3]) (by rw [wld_get p1, p3]) o2 p2 rfl a1 a2 a3 a4 a5 (fun _ _ => rfl) hfr hlo hd (fun H1 locs1 hP1 _ hS1 => kk _ g2 H1 locs1 ls ?_ hS1 hl)
    rw [← p3, wld_set p1] at hP1
    exact hP1
theorem g_max (Γ : IsG Y G own cc nL R) {x y : Int32} {index : Nat} (hd : decode cc pc = .ok (.invokestatic index, 3))  (h1 : Cond.methodLink own index Lib.Math.max.name ∈ WL) (h2 : Cond.static Lib.Math.max.name ∈ WL) (h3 : Cond.initialized "java/lang/Math" ∈ WL) (h4 : Cond.code Lib.Math.max.name Lib.Math.max.code 2 (some .int) ∈ WL) (hfr : 1 ≤ R.frames) (hlo : (st.map fun v => v.category).sum + 13 ≤ R.locals) (kk : G (pc + 3) lv (.int (if x < y then y else x) :: st) μ) : G pc lv (.int y :: .int x :: st) μ := by
  obtain ⟨p, e, s, m, args, below, meth, c, cells, slots, Z, A, rfl, hx, hb, hml, hown, hts, hK, hQ, hA, hXO, hX, hcl, hsl⟩ := Γ
  intro H locs ls hP hS hl
  exact va_mmax hx hb (hml.trans hl.1.symm) hown (hts _ h1) (hts _ h2) (hts _ h3) (hts _ h4) hfr hlo hcl hsl hd (kk H locs ls hP hS hl)
theorem g_min (Γ : IsG Y G own cc nL R) {x y : Int32} {index : Nat} (hd : decode cc pc = .ok (.invokestatic index, 3))  (h1 : Cond.methodLink own index Lib.Math.min.name ∈ WL) (h2 : Cond.static Lib.Math.min.name ∈ WL) (h3 : Cond.initialized "java/lang/Math" ∈ WL) (h4 : Cond.code Lib.Math.min.name Lib.Math.min.code 2 (some .int) ∈ WL) (hfr : 1 ≤ R.frames) (hlo : (st.map fun v => v.category).sum + 13 ≤ R.locals) (kk : G (pc + 3) lv (.int (if y < x then y else x) :: st) μ) : G pc lv (.int y :: .int x :: st) μ := by
  obtain ⟨p, e, s, m, args, below, meth, c, cells, slots, Z, A, rfl, hx, hb, hml, hown, hts, hK, hQ, hA, hXO, hX, hcl, hsl⟩ := Γ
  intro H locs ls hP hS hl
  exact va_mmin hx hb (hml.trans hl.1.symm) hown (hts _ h1) (hts _ h2) (hts _ h3) (hts _ h4) hfr hlo hcl hsl hd (kk H locs ls hP hS hl)
theorem g_abs (Γ : IsG Y G own cc nL R) {x : Int32} {index : Nat} (hd : decode cc pc = .ok (.invokestatic index, 3))  (h1 : Cond.methodLink own index Lib.Math.abs.name ∈ WL) (h2 : Cond.static Lib.Math.abs.name ∈ WL) (h3 : Cond.initialized "java/lang/Math" ∈ WL) (h4 : Cond.code Lib.Math.abs.name Lib.Math.abs.code 1 (some .int) ∈ WL) (hfr : 1 ≤ R.frames) (hlo : (st.map fun v => v.category).sum + 13 ≤ R.locals) (kk : G (pc + 3) lv (.int (if 0 ≤ x then x else 0 - x) :: st) μ) : G pc lv (.int x :: st) μ := by
  obtain ⟨p, e, s, m, args, below, meth, c, cells, slots, Z, A, rfl, hx, hb, hml, hown, hts, hK, hQ, hA, hXO, hX, hcl, hsl⟩ := Γ
  intro H locs ls hP hS hl
  exact va_mabs hx hb (hml.trans hl.1.symm) hown (hts _ h1) (hts _ h2) (hts _ h3) (hts _ h4) hfr hlo hcl hsl hd (kk H locs ls hP hS hl)
theorem g_callV (Γ : IsG Y G own cc nL R) {y : MethodName} {cc' : ByteArray} {n' d k index i ci : Nat} {ret : Option FieldType} {fs : (Nat → Int32) → List Value} {as st0 : List Value} {o : Option Value} {m1 : Mem} {T : u_T} {N : Nat} (hd : decode cc pc = .ok (.invokevirtual index, 3)) (hM : KC Y y cc' n' ret d (.ref (sq Y i) :: as) μ o m1) (hO : Obj Y i ci fs) (hcl : vwCl[ci]? = some (y.cls, T, N)) (hI : MI y cc' n' ret k) (hV : MV y) (hw : Cond.methodLink own index y ∈ WL) (hk : as.length = k) (hR : d + 1 ≤ R.frames ∧ 8 + (n' + 11) + 40 * d ≤ R.locals) (hst : st0 = as.reverse ++ .ref (sq Y i) :: st) (hcat : (st.map fun v => v.category).sum ≤ 8) (kk : G (pc + 3) lv (o.toList ++ st) m1) : G pc lv st0 μ := by
  obtain ⟨p, e, s, m, args, below, meth, c, cells, slots, Z, A, rfl, hx, hb, hml, hown, hts, hK, hQ, hA, hXO, hX, hce, hsl⟩ := Γ
  intro H locs ls hP hS hl
  obtain ⟨i1, i2, i3, i4, i5⟩ := hI
  refine w_back (va_runV (As := as) (rest := st) ⟨hx, hb, hml, hown, hts⟩ (hM H.size) (cwV k hts (fun w h => ?_) rfl rfl rfl ⟨rfl, i3, i4, i5⟩ hR) ⟨pre_blind, va_recv hK hP hcl (by rw [wld_get hO.1, hO.2]), pre_at hP hS hK hQ hA hXO hX⟩ rfl hk hl.1 hst (lv_room hcat) hd ⟨hce, hsl⟩) hS (FA_sub hQ hA hS.1) (fun H1 locs1 hP1 hS1 => kk H1 locs1 ls hP1 hS1 hl)
  unfold wsV at h
  rcases List.mem_append.mp h with h | h
  · simp only [List.mem_cons, List.not_mem_nil, or_false] at h
    rcases h with rfl | rfl | rfl | rfl
    · exact wl_gi hw
    · exact wl_gi hV.1
    · exact wl_gi hV.2
    · exact wl_gi i2
  · exact wl_code i1 w h
theorem g_callS (Γ : IsG Y G own cc nL R) {y : MethodName} {cc' : ByteArray} {n' d k index : Nat} {ret : Option FieldType} {as st0 : List Value} {o : Option Value} {m1 : Mem} (hd : decode cc pc = .ok (.invokestatic index, 3)) (hM : KC Y y cc' n' ret d as μ o m1) (hI : MI y cc' n' ret k) (hV : MS y) (hw : Cond.methodLink own index y ∈ WL) (hk : as.length = k) (hR : d + 1 ≤ R.frames ∧ 8 + (n' + 11) + 40 * d ≤ R.locals) (hst : st0 = as.reverse ++ st) (hcat : (st.map fun v => v.category).sum ≤ 8) (kk : G (pc + 3) lv (o.toList ++ st) m1) : G pc lv st0 μ := by
  obtain ⟨p, e, s, m, args, below, meth, c, cells, slots, Z, A, rfl, hx, hb, hml, hown, hts, hK, hQ, hA, hXO, hX, hce, hsl⟩ := Γ
  intro H locs ls hP hS hl
  obtain ⟨i1, i2, i3, i4, i5⟩ := hI
  refine w_back (va_runS (As := as) (rest := st) ⟨hx, hb, hml, hown, hts⟩ (hM H.size) (va_cwS k hts (fun w h => ?_) rfl rfl rfl ⟨i3, i4, i5⟩ hR) ⟨pre_blind, pre_at hP hS hK hQ hA hXO hX⟩ rfl hk hl.1 hst (lv_room hcat) hd ⟨hce, hsl⟩) hS (FA_sub hQ hA hS.1) (fun H1 locs1 hP1 hS1 => kk H1 locs1 ls hP1 hS1 hl)
  unfold va_wsS at h
  rcases List.mem_append.mp h with h | h
  · simp only [List.mem_cons, List.not_mem_nil, or_false] at h
    rcases h with rfl | rfl | rfl
    · exact wl_gi hw
    · exact wl_gi hV
    · exact wl_gi i2
  · exact wl_code i1 w h
end GR
theorem KC.entry {Y : SYS} {y : MethodName} {cc : ByteArray} {n d : Nat} {ret : Option FieldType} {as : List Value} {μ m : Mem} {o : Option Value} {own : String} {lv : List (Nat × Value)} (hpl : plainName y.cls = true) (hown : y.cls = own) (hlen : (lg_sl as).length ≤ n) (hlv : lv_args 0 as = lv)
    (body : ∀ G : GT, IsG Y G own cc n (RM d) → (∀ x, o = some (.int x) → ret = some .int → RetI G cc x m) → (∀ x, o = some (.int x) → ret = some .boolean → RetZ G cc x m) → (o = none → ret = none → RetV G cc m) → (∀ a C, o = some (.ref a) → ret = some (.object C) → RetA G cc a m) → G 0 lv [] μ) : KC Y y cc n ret d as μ o m := by
  intro sz
  refine Met.ofW (cc := cc) (maxL := n) (ret := ret) hpl rfl ?_
  intro p e s m0 args below meth c s₁ B hml hv
  obtain ⟨rfl, hsz, hP, hK, hQ, hXO, hX⟩ := hv
  have hx := B.exec
  have hb := B.bytes
  have hr := B.returns
  have hts := atoms_spec (ws := Cond.code y cc n ret :: WL) B.pre
  have hown1 : s.vm.findClass own = some m0.cls := by rw [← hown]; exact findClass_of_methodNamed B.named
  have hlocks := B.notSynchronized
  subst hsz
  have hQF : QI Y (FA Y s.heap.size) := hQ.of (fun i hi => Or.inl ⟨i, hi, rfl⟩)
  have hl := lv_entry as (n := n) hlen
  rw [hlv] at hl
  rw [lg_entry_eq]
  have hS0 : va_S (FA Y s.heap.size) s.heap s.heap [] := va_S.rf
  refine body (fun pc lv st μ => ∀ (H : Heap) (locs : List Loc) (ls : Array Slot), va_P (sD Y) vwCl (wld Y μ) H → va_S (FA Y s.heap.size) s.heap H locs → lv_has ls n lv → W p (sL Y) e (RM d) s m0 as.toArray below meth c H locs 0 0 (MQ below (QG Y o m s.heap.size) as.toArray s 0 0 (FA Y s.heap.size)) (F0 m0 pc ls st))
    ⟨p, e, s, m0, as.toArray, below, meth, c, 0, 0, _, FA Y s.heap.size, rfl, hx, hb, hml, hown1, fun w h => hts w (List.mem_cons_of_mem _ h), hK, hQF, fun a h => Or.inr h, hXO, hX, Nat.le_refl 0, Nat.le_refl 0⟩ ?_ ?_ ?_ ?_ s.heap [] _ hP hS0 hl
  · intro x ho hrt pc lv hd H locs ls hP hS hl
    exact W.iret hx hb (hr.trans hrt) (fun t ht hW => ⟨⟨by rw [ho], by rw [ht]; exact hP⟩, hS.F ht⟩) hS.2.2 hd
  · intro x ho hrt pc lv hd h01 H locs ls hP hS hl
    exact W.zret hx hb (hr.trans hrt) (by rcases h01 with rfl | rfl <;> rfl) (fun t ht hW => ⟨⟨by rw [ho], by rw [ht]; exact hP⟩, hS.F ht⟩) hS.2.2 hd
  · intro ho hrt pc lv hd H locs ls hP hS hl
    exact W.vret hx hb (hr.trans hrt) (fun t ht hW => ⟨⟨by rw [ho], by rw [ht]; exact hP⟩, hS.F ht⟩) hS.2.2 hd
  · intro a C ho hrt pc lv hd H locs ls hP hS hl
    exact W.aret hx hb (hr.trans hrt) (Or.inl ⟨C, rfl⟩) (Or.inr ⟨a, rfl⟩) (fun t ht hW => ⟨⟨by rw [ho], by rw [ht]; exact hP⟩, hS.F ht⟩) hS.2.2 hd
theorem KC.I {Y : SYS} {y : MethodName} {cc : ByteArray} {n d : Nat} {as : List Value} {μ m : Mem} {x : Int32} (own : String) (lv : List (Nat × Value)) (hpl : plainName y.cls = true) (hown : y.cls = own) (hlen : (lg_sl as).length ≤ n) (hlv : lv_args 0 as = lv) (body : ∀ G : GT, IsG Y G own cc n (RM d) → RetI G cc x m → G 0 lv [] μ) : KC Y y cc n (some .int) d as μ (some (.int x)) m :=
  KC.entry hpl hown hlen hlv (fun G Γ h1 _ _ _ => body G Γ (h1 x rfl rfl))
theorem KC.Z {Y : SYS} {y : MethodName} {cc : ByteArray} {n d : Nat} {as : List Value} {μ m : Mem} {x : Int32} (own : String) (lv : List (Nat × Value)) (hpl : plainName y.cls = true) (hown : y.cls = own) (hlen : (lg_sl as).length ≤ n) (hlv : lv_args 0 as = lv) (body : ∀ G : GT, IsG Y G own cc n (RM d) → RetZ G cc x m → G 0 lv [] μ) : KC Y y cc n (some .boolean) d as μ (some (.int x)) m :=
  KC.entry hpl hown hlen hlv (fun G Γ _ h1 _ _ => body G Γ (h1 x rfl rfl))
theorem KC.V {Y : SYS} {y : MethodName} {cc : ByteArray} {n d : Nat} {as : List Value} {μ m : Mem} (own : String) (lv : List (Nat × Value)) (hpl : plainName y.cls = true) (hown : y.cls = own) (hlen : (lg_sl as).length ≤ n) (hlv : lv_args 0 as = lv) (body : ∀ G : GT, IsG Y G own cc n (RM d) → RetV G cc m → G 0 lv [] μ) : KC Y y cc n none d as μ none m :=
  KC.entry hpl hown hlen hlv (fun G Γ _ _ h1 _ => body G Γ (h1 rfl rfl))
theorem KC.A {Y : SYS} {y : MethodName} {cc : ByteArray} {n d : Nat} {as : List Value} {μ m : Mem} {a : Nat} {C : String} (own : String) (lv : List (Nat × Value)) (hpl : plainName y.cls = true) (hown : y.cls = own) (hlen : (lg_sl as).length ≤ n) (hlv : lv_args 0 as = lv) (body : ∀ G : GT, IsG Y G own cc n (RM d) → RetA G cc a m → G 0 lv [] μ) : KC Y y cc n (some (.object C)) d as μ (some (.ref a)) m :=
  KC.entry hpl hown hlen hlv (fun G Γ _ _ _ h1 => body G Γ (h1 a C rfl rfl))
-- leaves
theorem rI {G : GT} {cc : ByteArray} {x v : Int32} {m μ : Mem} {pc : Nat} {lv : List (Nat × Value)} (h : RetI G cc x m) (hd : decode cc pc = .ok (.ireturn, 1)) (hf : some (v, μ) = some (x, m)) : G pc lv [.int v] μ := by
  cases hf
  exact h pc lv hd
theorem rIr {G : GT} {cc : ByteArray} {x v : Int32} {μ : Mem} {pc : Nat} {lv : List (Nat × Value)} (h : RetI G cc x μ) (hd : decode cc pc = .ok (.ireturn, 1)) (hf : some v = some x) : G pc lv [.int v] μ := by
  cases hf
  exact h pc lv hd
theorem rZ {G : GT} {cc : ByteArray} {x v : Int32} {m μ : Mem} {pc : Nat} {lv : List (Nat × Value)} (h : RetZ G cc x m) (hd : decode cc pc = .ok (.ireturn, 1)) (hf : bn1 (zM v) (fun v => some (v, μ)) = some (x, m)) : G pc lv [.int v] μ := by
  unfold zM at hf
  by_cases h01 : v = 0 ∨ v = 1
  · rw [if_pos h01] at hf
    cases hf
    exact h pc lv hd h01
  · rw [if_neg h01] at hf; cases hf
theorem rZr {G : GT} {cc : ByteArray} {x v : Int32} {μ : Mem} {pc : Nat} {lv : List (Nat × Value)} (h : RetZ G cc x μ) (hd : decode cc pc = .ok (.ireturn, 1)) (hf : zM v = some x) : G pc lv [.int v] μ := by
  unfold zM at hf
  by_cases h01 : v = 0 ∨ v = 1
  · rw [if_pos h01] at hf
    cases hf
    exact h pc lv hd h01
  · rw [if_neg h01] at hf; cases hf
theorem rZk {G : GT} {cc : ByteArray} {x v : Int32} {m μ : Mem} {pc : Nat} {lv : List (Nat × Value)} (h : RetZ G cc x m) (hd : decode cc pc = .ok (.ireturn, 1)) (h01 : v = 0 ∨ v = 1) (hf : some (v, μ) = some (x, m)) : G pc lv [.int v] μ := by
  cases hf
  exact h pc lv hd h01
theorem rZkr {G : GT} {cc : ByteArray} {x v : Int32} {μ : Mem} {pc : Nat} {lv : List (Nat × Value)} (h : RetZ G cc x μ) (hd : decode cc pc = .ok (.ireturn, 1)) (h01 : v = 0 ∨ v = 1) (hf : some v = some x) : G pc lv [.int v] μ := by
  cases hf
  exact h pc lv hd h01
theorem rV {G : GT} {cc : ByteArray} {m μ : Mem} {pc : Nat} {lv : List (Nat × Value)} (h : RetV G cc m) (hd : decode cc pc = .ok (.return_, 1)) (hf : some μ = some m) : G pc lv [] μ := by
  cases hf
  exact h pc lv hd
end
section
theorem tb_1 {w : Cond} (h : w ∈ tables_1_1) : w ∈ lw_tbl := List.mem_append_right _ (List.mem_append_left _ h)
theorem tb_2 {w : Cond} (h : w ∈ tables_1_2) : w ∈ lw_tbl := List.mem_append_right _ (List.mem_append_right _ (List.mem_append_left _ h))
theorem tb_3 {w : Cond} (h : w ∈ tables_1_3) : w ∈ lw_tbl := List.mem_append_right _ (List.mem_append_right _ (List.mem_append_right _ (List.mem_append_left _ h)))
theorem tb_4 {w : Cond} (h : w ∈ tables_1_4) : w ∈ lw_tbl := List.mem_append_right _ (List.mem_append_right _ (List.mem_append_right _ (List.mem_append_right _ (List.mem_append_left _ h))))
theorem tb_5 {w : Cond} (h : w ∈ tables_1_5) : w ∈ lw_tbl := List.mem_append_right _ (List.mem_append_right _ (List.mem_append_right _ (List.mem_append_right _ (List.mem_append_right _ (List.mem_append_left _ h)))))
theorem tb_6 {w : Cond} (h : w ∈ tables_1_6) : w ∈ lw_tbl := List.mem_append_right _ (List.mem_append_right _ (List.mem_append_right _ (List.mem_append_right _ (List.mem_append_right _ (List.mem_append_right _ (h))))))
theorem tb_0 {w : Cond} (h : w ∈ k2_sels lw_privs) : w ∈ lw_tbl := List.mem_append_left _ h
theorem kI_L : Cond.initialized RL ∈ WL := wl_of (tb_1 (List.mem_of_getElem? (i := 0) rfl)) rfl
theorem kI_X7 : Cond.initialized RX7 ∈ WL := wl_of (tb_1 (List.mem_of_getElem? (i := 1) rfl)) rfl
theorem kI_X0 : Cond.initialized RX0 ∈ WL := wl_of (tb_1 (List.mem_of_getElem? (i := 2) rfl)) rfl
theorem kI_X6 : Cond.initialized RX6 ∈ WL := wl_of (tb_1 (List.mem_of_getElem? (i := 3) rfl)) rfl
theorem kI_X2 : Cond.initialized RX2 ∈ WL := wl_of (tb_1 (List.mem_of_getElem? (i := 4) rfl)) rfl
theorem kI_X3 : Cond.initialized RX3 ∈ WL := wl_of (tb_1 (List.mem_of_getElem? (i := 5) rfl)) rfl
theorem kI_X4 : Cond.initialized RX4 ∈ WL := wl_of (tb_1 (List.mem_of_getElem? (i := 6) rfl)) rfl
theorem kI_X5 : Cond.initialized RX5 ∈ WL := wl_of (tb_1 (List.mem_of_getElem? (i := 7) rfl)) rfl
theorem kI_X8 : Cond.initialized RX8 ∈ WL := wl_of (tb_1 (List.mem_of_getElem? (i := 8) rfl)) rfl
theorem kI_J6 : Cond.initialized RJ6 ∈ WL := wl_of (tb_1 (List.mem_of_getElem? (i := 9) rfl)) rfl
theorem kI_J9 : Cond.initialized RJ9 ∈ WL := wl_of (tb_1 (List.mem_of_getElem? (i := 10) rfl)) rfl
theorem kI_X1 : Cond.initialized RX1 ∈ WL := wl_of (tb_1 (List.mem_of_getElem? (i := 11) rfl)) rfl
theorem kI_J10 : Cond.initialized RJ10 ∈ WL := wl_of (tb_1 (List.mem_of_getElem? (i := 12) rfl)) rfl
theorem kI_J0 : Cond.initialized RJ0 ∈ WL := wl_of (tb_1 (List.mem_of_getElem? (i := 13) rfl)) rfl
theorem kI_J1 : Cond.initialized RJ1 ∈ WL := wl_of (tb_1 (List.mem_of_getElem? (i := 14) rfl)) rfl
theorem kI_J3 : Cond.initialized RJ3 ∈ WL := wl_of (tb_1 (List.mem_of_getElem? (i := 15) rfl)) rfl
theorem kI_J2 : Cond.initialized RJ2 ∈ WL := wl_of (tb_1 (List.mem_of_getElem? (i := 16) rfl)) rfl
theorem kI_J11 : Cond.initialized RJ11 ∈ WL := wl_of (tb_1 (List.mem_of_getElem? (i := 17) rfl)) rfl
theorem kCL_L_7 : Cond.classLink RL 7 RX7 ∈ WL := wl_of (tb_1 (List.mem_of_getElem? (i := 18) rfl)) rfl
theorem kIn_X7 : Cond.instantiable RX7 11 ∈ WL := wl_of (tb_1 (List.mem_of_getElem? (i := 19) rfl)) rfl
theorem kM_L_9 : Cond.methodLink RL 9 yX7_init ∈ WL := wl_of (tb_1 (List.mem_of_getElem? (i := 20) rfl)) rfl
theorem kN_X7_init : Cond.instanceMethod yX7_init ∈ WL := wl_of (tb_1 (List.mem_of_getElem? (i := 21) rfl)) rfl
theorem kC_X7_init : Cond.code yX7_init cX7_init 2 none ∈ WL := wl_of (tb_1 (List.mem_of_getElem? (i := 22) rfl)) rfl
theorem kM_X7_1 : Cond.methodLink RX7 1 objectInit ∈ WL := wl_of (tb_1 (List.mem_of_getElem? (i := 23) rfl)) rfl
theorem kN_OBJ : Cond.instanceMethod objectInit ∈ WL := wl_of (tb_1 (List.mem_of_getElem? (i := 24) rfl)) rfl
theorem kC_OBJ : Cond.code objectInit ⟨#[0xb1]⟩ 1 none ∈ WL := wl_of (tb_1 (List.mem_of_getElem? (i := 25) rfl)) rfl
theorem kCL_X7_7 : Cond.classLink RX7 7 RX0 ∈ WL := wl_of (tb_1 (List.mem_of_getElem? (i := 26) rfl)) rfl
theorem kIn_X0 : Cond.instantiable RX0 5 ∈ WL := wl_of (tb_1 (List.mem_of_getElem? (i := 27) rfl)) rfl
theorem kMN_X7_9 : Cond.methodLinkNest RX7 9 yX0_init RX7 ∈ lw_tbl := tb_1 (List.mem_of_getElem? (i := 28) rfl)
theorem kN_X0_init : Cond.instanceMethod yX0_init ∈ WL := wl_of (tb_1 (List.mem_of_getElem? (i := 29) rfl)) rfl
theorem kC_X0_init : Cond.code yX0_init cX0_init 1 none ∈ WL := wl_of (tb_1 (List.mem_of_getElem? (i := 30) rfl)) rfl
theorem kM_X0_3 : Cond.methodLink RX0 3 objectInit ∈ WL := wl_of (tb_1 (List.mem_of_getElem? (i := 31) rfl)) rfl
theorem kCL_X0_21 : Cond.classLink RX0 21 "[[I" ∈ WL := wl_of (tb_1 (List.mem_of_getElem? (i := 32) rfl)) rfl
theorem kF_X0_9 : Cond.fieldLink RX0 9 "HalfFriends$Book" "keys" "[I" ∈ WL := wl_of (tb_1 (List.mem_of_getElem? (i := 34) rfl)) rfl
theorem kF_X7_262 : Cond.fieldLink RX7 262 "HalfFriends$Book" "keys" "[I" ∈ WL := wl_of (tb_1 (List.mem_of_getElem? (i := 35) rfl)) rfl
theorem kF_X0_15 : Cond.fieldLink RX0 15 "HalfFriends$Book" "leaves" "[I" ∈ WL := wl_of (tb_1 (List.mem_of_getElem? (i := 36) rfl)) rfl
theorem kF_X7_265 : Cond.fieldLink RX7 265 "HalfFriends$Book" "leaves" "[I" ∈ WL := wl_of (tb_1 (List.mem_of_getElem? (i := 37) rfl)) rfl
theorem kF_X0_18 : Cond.fieldLink RX0 18 "HalfFriends$Book" "lengths" "[I" ∈ WL := wl_of (tb_1 (List.mem_of_getElem? (i := 38) rfl)) rfl
theorem kF_X0_23 : Cond.fieldLink RX0 23 "HalfFriends$Book" "steps" "[[I" ∈ WL := wl_of (tb_1 (List.mem_of_getElem? (i := 39) rfl)) rfl
theorem kF_X0_26 : Cond.fieldLink RX0 26 "HalfFriends$Book" "stack" "[I" ∈ WL := wl_of (tb_1 (List.mem_of_getElem? (i := 40) rfl)) rfl
theorem kY_X0_keys : Cond.laysFinal RX0 "HalfFriends$Book" "keys" "[I" ∈ WL := wl_of (tb_1 (List.mem_of_getElem? (i := 41) rfl)) rfl
theorem kY_X0_leaves : Cond.laysFinal RX0 "HalfFriends$Book" "leaves" "[I" ∈ WL := wl_of (tb_1 (List.mem_of_getElem? (i := 43) rfl)) rfl
theorem kY_X0_lengths : Cond.laysFinal RX0 "HalfFriends$Book" "lengths" "[I" ∈ WL := wl_of (tb_1 (List.mem_of_getElem? (i := 45) rfl)) rfl
theorem kY_X0_steps : Cond.laysFinal RX0 "HalfFriends$Book" "steps" "[[I" ∈ WL := wl_of (tb_1 (List.mem_of_getElem? (i := 47) rfl)) rfl
theorem kY_X0_stack : Cond.laysFinal RX0 "HalfFriends$Book" "stack" "[I" ∈ WL := wl_of (tb_1 (List.mem_of_getElem? (i := 49) rfl)) rfl
theorem kCL_X7_16 : Cond.classLink RX7 16 RX6 ∈ WL := wl_of (tb_1 (List.mem_of_getElem? (i := 53) rfl)) rfl
theorem kIn_X6 : Cond.instantiable RX6 15 ∈ WL := wl_of (tb_1 (List.mem_of_getElem? (i := 54) rfl)) rfl
theorem kM_X7_18 : Cond.methodLink RX7 18 yX6_init ∈ WL := wl_of (tb_1 (List.mem_of_getElem? (i := 55) rfl)) rfl
theorem kN_X6_init : Cond.instanceMethod yX6_init ∈ WL := wl_of (tb_1 (List.mem_of_getElem? (i := 56) rfl)) rfl
theorem kC_X6_init : Cond.code yX6_init cX6_init 2 none ∈ WL := wl_of (tb_1 (List.mem_of_getElem? (i := 57) rfl)) rfl
theorem kM_X6_3 : Cond.methodLink RX6 3 objectInit ∈ WL := wl_of (tb_1 (List.mem_of_getElem? (i := 58) rfl)) rfl
theorem kF_X6_55 : Cond.fieldLink RX6 55 "HalfFriends$Town" "book" "LHalfFriends$Book;" ∈ WL := wl_of (tb_1 (List.mem_of_getElem? (i := 59) rfl)) rfl
theorem kF_X6_9 : Cond.fieldLink RX6 9 "HalfFriends$Town" "kind" "[I" ∈ WL := wl_of (tb_1 (List.mem_of_getElem? (i := 60) rfl)) rfl
theorem kF_X7_88 : Cond.fieldLink RX7 88 "HalfFriends$Town" "kind" "[I" ∈ WL := wl_of (tb_1 (List.mem_of_getElem? (i := 61) rfl)) rfl
theorem kF_X6_15 : Cond.fieldLink RX6 15 "HalfFriends$Town" "price" "[I" ∈ WL := wl_of (tb_1 (List.mem_of_getElem? (i := 62) rfl)) rfl
theorem kF_X7_95 : Cond.fieldLink RX7 95 "HalfFriends$Town" "price" "[I" ∈ WL := wl_of (tb_1 (List.mem_of_getElem? (i := 63) rfl)) rfl
theorem kF_X6_18 : Cond.fieldLink RX6 18 "HalfFriends$Town" "purse" "[I" ∈ WL := wl_of (tb_1 (List.mem_of_getElem? (i := 64) rfl)) rfl
theorem kF_X7_98 : Cond.fieldLink RX7 98 "HalfFriends$Town" "purse" "[I" ∈ WL := wl_of (tb_1 (List.mem_of_getElem? (i := 65) rfl)) rfl
theorem kF_X6_21 : Cond.fieldLink RX6 21 "HalfFriends$Town" "circle" "[I" ∈ WL := wl_of (tb_1 (List.mem_of_getElem? (i := 66) rfl)) rfl
theorem kF_X7_101 : Cond.fieldLink RX7 101 "HalfFriends$Town" "circle" "[I" ∈ WL := wl_of (tb_1 (List.mem_of_getElem? (i := 67) rfl)) rfl
theorem kF_X2_57 : Cond.fieldLink RX2 57 "HalfFriends$Town" "circle" "[I" ∈ WL := wl_of (tb_1 (List.mem_of_getElem? (i := 68) rfl)) rfl
theorem kF_X6_24 : Cond.fieldLink RX6 24 "HalfFriends$Town" "size" "I" ∈ WL := wl_of (tb_1 (List.mem_of_getElem? (i := 69) rfl)) rfl
theorem kF_X2_25 : Cond.fieldLink RX2 25 "HalfFriends$Town" "size" "I" ∈ WL := wl_of (tb_1 (List.mem_of_getElem? (i := 70) rfl)) rfl
theorem kF_X7_76 : Cond.fieldLink RX7 76 "HalfFriends$Town" "size" "I" ∈ WL := wl_of (tb_1 (List.mem_of_getElem? (i := 71) rfl)) rfl
theorem kF_X6_28 : Cond.fieldLink RX6 28 "HalfFriends$Town" "minds" "I" ∈ WL := wl_of (tb_1 (List.mem_of_getElem? (i := 72) rfl)) rfl
theorem kF_X2_34 : Cond.fieldLink RX2 34 "HalfFriends$Town" "minds" "I" ∈ WL := wl_of (tb_1 (List.mem_of_getElem? (i := 73) rfl)) rfl
theorem kF_X7_170 : Cond.fieldLink RX7 170 "HalfFriends$Town" "minds" "I" ∈ WL := wl_of (tb_1 (List.mem_of_getElem? (i := 74) rfl)) rfl
theorem kF_X6_31 : Cond.fieldLink RX6 31 "HalfFriends$Town" "slack" "I" ∈ WL := wl_of (tb_1 (List.mem_of_getElem? (i := 75) rfl)) rfl
theorem kF_X2_63 : Cond.fieldLink RX2 63 "HalfFriends$Town" "slack" "I" ∈ WL := wl_of (tb_1 (List.mem_of_getElem? (i := 76) rfl)) rfl
theorem kF_X7_140 : Cond.fieldLink RX7 140 "HalfFriends$Town" "slack" "I" ∈ WL := wl_of (tb_1 (List.mem_of_getElem? (i := 77) rfl)) rfl
theorem kF_X6_34 : Cond.fieldLink RX6 34 "HalfFriends$Town" "mode" "I" ∈ WL := wl_of (tb_1 (List.mem_of_getElem? (i := 78) rfl)) rfl
theorem kF_X7_143 : Cond.fieldLink RX7 143 "HalfFriends$Town" "mode" "I" ∈ WL := wl_of (tb_1 (List.mem_of_getElem? (i := 79) rfl)) rfl
theorem kF_X6_37 : Cond.fieldLink RX6 37 "HalfFriends$Town" "whim" "I" ∈ WL := wl_of (tb_1 (List.mem_of_getElem? (i := 80) rfl)) rfl
theorem kF_X7_146 : Cond.fieldLink RX7 146 "HalfFriends$Town" "whim" "I" ∈ WL := wl_of (tb_1 (List.mem_of_getElem? (i := 81) rfl)) rfl
theorem kF_X6_40 : Cond.fieldLink RX6 40 "HalfFriends$Town" "chest" "I" ∈ WL := wl_of (tb_1 (List.mem_of_getElem? (i := 82) rfl)) rfl
theorem kF_X7_164 : Cond.fieldLink RX7 164 "HalfFriends$Town" "chest" "I" ∈ WL := wl_of (tb_1 (List.mem_of_getElem? (i := 83) rfl)) rfl
theorem kF_X6_43 : Cond.fieldLink RX6 43 "HalfFriends$Town" "changes" "I" ∈ WL := wl_of (tb_1 (List.mem_of_getElem? (i := 84) rfl)) rfl
theorem kF_X7_167 : Cond.fieldLink RX7 167 "HalfFriends$Town" "changes" "I" ∈ WL := wl_of (tb_1 (List.mem_of_getElem? (i := 85) rfl)) rfl
theorem kF_X6_46 : Cond.fieldLink RX6 46 "HalfFriends$Town" "year" "I" ∈ WL := wl_of (tb_1 (List.mem_of_getElem? (i := 86) rfl)) rfl
theorem kF_X7_202 : Cond.fieldLink RX7 202 "HalfFriends$Town" "year" "I" ∈ WL := wl_of (tb_1 (List.mem_of_getElem? (i := 87) rfl)) rfl
theorem kF_X6_49 : Cond.fieldLink RX6 49 "HalfFriends$Town" "z" "I" ∈ WL := wl_of (tb_1 (List.mem_of_getElem? (i := 88) rfl)) rfl
theorem kF_X7_158 : Cond.fieldLink RX7 158 "HalfFriends$Town" "z" "I" ∈ WL := wl_of (tb_1 (List.mem_of_getElem? (i := 89) rfl)) rfl
theorem kF_X6_52 : Cond.fieldLink RX6 52 "HalfFriends$Town" "texts" "I" ∈ WL := wl_of (tb_1 (List.mem_of_getElem? (i := 90) rfl)) rfl
theorem kF_X7_236 : Cond.fieldLink RX7 236 "HalfFriends$Town" "texts" "I" ∈ WL := wl_of (tb_1 (List.mem_of_getElem? (i := 91) rfl)) rfl
theorem kY_X6_book : Cond.laysFinal RX6 "HalfFriends$Town" "book" "LHalfFriends$Book;" ∈ WL := wl_of (tb_1 (List.mem_of_getElem? (i := 92) rfl)) rfl
theorem kY_X6_kind : Cond.laysFinal RX6 "HalfFriends$Town" "kind" "[I" ∈ WL := wl_of (tb_1 (List.mem_of_getElem? (i := 94) rfl)) rfl
theorem kY_X6_price : Cond.laysFinal RX6 "HalfFriends$Town" "price" "[I" ∈ WL := wl_of (tb_1 (List.mem_of_getElem? (i := 96) rfl)) rfl
theorem kY_X6_purse : Cond.laysFinal RX6 "HalfFriends$Town" "purse" "[I" ∈ WL := wl_of (tb_1 (List.mem_of_getElem? (i := 98) rfl)) rfl
theorem kY_X6_circle : Cond.laysFinal RX6 "HalfFriends$Town" "circle" "[I" ∈ WL := wl_of (tb_1 (List.mem_of_getElem? (i := 100) rfl)) rfl
theorem kY_X6_size : Cond.lays RX6 "HalfFriends$Town" "size" "I" ∈ WL := wl_of (tb_1 (List.mem_of_getElem? (i := 102) rfl)) rfl
theorem kY_X6_minds : Cond.lays RX6 "HalfFriends$Town" "minds" "I" ∈ WL := wl_of (tb_1 (List.mem_of_getElem? (i := 104) rfl)) rfl
theorem kY_X6_slack : Cond.lays RX6 "HalfFriends$Town" "slack" "I" ∈ WL := wl_of (tb_1 (List.mem_of_getElem? (i := 106) rfl)) rfl
theorem kY_X6_mode : Cond.lays RX6 "HalfFriends$Town" "mode" "I" ∈ WL := wl_of (tb_1 (List.mem_of_getElem? (i := 108) rfl)) rfl
theorem kY_X6_whim : Cond.lays RX6 "HalfFriends$Town" "whim" "I" ∈ WL := wl_of (tb_1 (List.mem_of_getElem? (i := 110) rfl)) rfl
theorem kY_X6_chest : Cond.lays RX6 "HalfFriends$Town" "chest" "I" ∈ WL := wl_of (tb_1 (List.mem_of_getElem? (i := 112) rfl)) rfl
theorem kY_X6_changes : Cond.lays RX6 "HalfFriends$Town" "changes" "I" ∈ WL := wl_of (tb_1 (List.mem_of_getElem? (i := 114) rfl)) rfl
theorem kY_X6_year : Cond.lays RX6 "HalfFriends$Town" "year" "I" ∈ WL := wl_of (tb_1 (List.mem_of_getElem? (i := 116) rfl)) rfl
theorem kY_X6_z : Cond.lays RX6 "HalfFriends$Town" "z" "I" ∈ WL := wl_of (tb_1 (List.mem_of_getElem? (i := 118) rfl)) rfl
theorem kY_X6_texts : Cond.lays RX6 "HalfFriends$Town" "texts" "I" ∈ WL := wl_of (tb_1 (List.mem_of_getElem? (i := 120) rfl)) rfl
theorem kCL_X7_31 : Cond.classLink RX7 31 RX2 ∈ WL := wl_of (tb_1 (List.mem_of_getElem? (i := 123) rfl)) rfl
theorem kIn_X2 : Cond.instantiable RX2 2 ∈ WL := wl_of (tb_1 (List.mem_of_getElem? (i := 124) rfl)) rfl
theorem kMN_X7_33 : Cond.methodLinkNest RX7 33 yX2_init RX7 ∈ lw_tbl := tb_1 (List.mem_of_getElem? (i := 125) rfl)
theorem kN_X2_init : Cond.instanceMethod yX2_init ∈ WL := wl_of (tb_1 (List.mem_of_getElem? (i := 126) rfl)) rfl
theorem kC_X2_init : Cond.code yX2_init cX2_init 1 none ∈ WL := wl_of (tb_1 (List.mem_of_getElem? (i := 127) rfl)) rfl
theorem kM_X2_3 : Cond.methodLink RX2 3 objectInit ∈ WL := wl_of (tb_1 (List.mem_of_getElem? (i := 128) rfl)) rfl
theorem kF_X2_9 : Cond.fieldLink RX2 9 "HalfFriends$Order" "unruly" "[I" ∈ WL := wl_of (tb_1 (List.mem_of_getElem? (i := 129) rfl)) rfl
theorem kF_X2_15 : Cond.fieldLink RX2 15 "HalfFriends$Order" "all" "I" ∈ WL := wl_of (tb_1 (List.mem_of_getElem? (i := 130) rfl)) rfl
theorem kY_X2_unruly : Cond.laysFinal RX2 "HalfFriends$Order" "unruly" "[I" ∈ WL := wl_of (tb_1 (List.mem_of_getElem? (i := 131) rfl)) rfl
theorem kY_X2_all : Cond.lays RX2 "HalfFriends$Order" "all" "I" ∈ WL := wl_of (tb_1 (List.mem_of_getElem? (i := 133) rfl)) rfl
theorem kCL_X7_38 : Cond.classLink RX7 38 RX3 ∈ WL := wl_of (tb_1 (List.mem_of_getElem? (i := 136) rfl)) rfl
theorem kIn_X3 : Cond.instantiable RX3 9 ∈ WL := wl_of (tb_1 (List.mem_of_getElem? (i := 137) rfl)) rfl
theorem kMN_X7_40 : Cond.methodLinkNest RX7 40 yX3_init RX7 ∈ lw_tbl := tb_1 (List.mem_of_getElem? (i := 138) rfl)
theorem kN_X3_init : Cond.instanceMethod yX3_init ∈ WL := wl_of (tb_1 (List.mem_of_getElem? (i := 139) rfl)) rfl
theorem kC_X3_init : Cond.code yX3_init cX3_init 1 none ∈ WL := wl_of (tb_1 (List.mem_of_getElem? (i := 140) rfl)) rfl
theorem kM_X3_3 : Cond.methodLink RX3 3 objectInit ∈ WL := wl_of (tb_1 (List.mem_of_getElem? (i := 141) rfl)) rfl
theorem kF_X3_9 : Cond.fieldLink RX3 9 "HalfFriends$Reader" "tape" "[I" ∈ WL := wl_of (tb_1 (List.mem_of_getElem? (i := 142) rfl)) rfl
theorem kF_X3_15 : Cond.fieldLink RX3 15 "HalfFriends$Reader" "steps" "[I" ∈ WL := wl_of (tb_1 (List.mem_of_getElem? (i := 143) rfl)) rfl
theorem kF_X0_40 : Cond.fieldLink RX0 40 "HalfFriends$Reader" "steps" "[I" ∈ WL := wl_of (tb_1 (List.mem_of_getElem? (i := 144) rfl)) rfl
theorem kF_X3_18 : Cond.fieldLink RX3 18 "HalfFriends$Reader" "length" "I" ∈ WL := wl_of (tb_1 (List.mem_of_getElem? (i := 145) rfl)) rfl
theorem kF_X7_246 : Cond.fieldLink RX7 246 "HalfFriends$Reader" "length" "I" ∈ WL := wl_of (tb_1 (List.mem_of_getElem? (i := 146) rfl)) rfl
theorem kF_X3_22 : Cond.fieldLink RX3 22 "HalfFriends$Reader" "start" "I" ∈ WL := wl_of (tb_1 (List.mem_of_getElem? (i := 147) rfl)) rfl
theorem kF_X7_255 : Cond.fieldLink RX7 255 "HalfFriends$Reader" "start" "I" ∈ WL := wl_of (tb_1 (List.mem_of_getElem? (i := 148) rfl)) rfl
theorem kF_X3_25 : Cond.fieldLink RX3 25 "HalfFriends$Reader" "end" "I" ∈ WL := wl_of (tb_1 (List.mem_of_getElem? (i := 149) rfl)) rfl
theorem kF_X3_28 : Cond.fieldLink RX3 28 "HalfFriends$Reader" "glued" "Z" ∈ WL := wl_of (tb_1 (List.mem_of_getElem? (i := 150) rfl)) rfl
theorem kF_X3_32 : Cond.fieldLink RX3 32 "HalfFriends$Reader" "key" "I" ∈ WL := wl_of (tb_1 (List.mem_of_getElem? (i := 151) rfl)) rfl
theorem kF_X0_29 : Cond.fieldLink RX0 29 "HalfFriends$Reader" "key" "I" ∈ WL := wl_of (tb_1 (List.mem_of_getElem? (i := 152) rfl)) rfl
theorem kF_X3_35 : Cond.fieldLink RX3 35 "HalfFriends$Reader" "leaves" "I" ∈ WL := wl_of (tb_1 (List.mem_of_getElem? (i := 153) rfl)) rfl
theorem kF_X0_35 : Cond.fieldLink RX0 35 "HalfFriends$Reader" "leaves" "I" ∈ WL := wl_of (tb_1 (List.mem_of_getElem? (i := 154) rfl)) rfl
theorem kF_X3_38 : Cond.fieldLink RX3 38 "HalfFriends$Reader" "stepCount" "I" ∈ WL := wl_of (tb_1 (List.mem_of_getElem? (i := 155) rfl)) rfl
theorem kF_X0_37 : Cond.fieldLink RX0 37 "HalfFriends$Reader" "stepCount" "I" ∈ WL := wl_of (tb_1 (List.mem_of_getElem? (i := 156) rfl)) rfl
theorem kY_X3_tape : Cond.laysFinal RX3 "HalfFriends$Reader" "tape" "[I" ∈ WL := wl_of (tb_1 (List.mem_of_getElem? (i := 157) rfl)) rfl
theorem kY_X3_steps : Cond.laysFinal RX3 "HalfFriends$Reader" "steps" "[I" ∈ WL := wl_of (tb_1 (List.mem_of_getElem? (i := 159) rfl)) rfl
theorem kY_X3_length : Cond.lays RX3 "HalfFriends$Reader" "length" "I" ∈ WL := wl_of (tb_1 (List.mem_of_getElem? (i := 161) rfl)) rfl
theorem kY_X3_start : Cond.lays RX3 "HalfFriends$Reader" "start" "I" ∈ WL := wl_of (tb_1 (List.mem_of_getElem? (i := 163) rfl)) rfl
theorem kY_X3_end : Cond.lays RX3 "HalfFriends$Reader" "end" "I" ∈ WL := wl_of (tb_1 (List.mem_of_getElem? (i := 165) rfl)) rfl
theorem kY_X3_glued : Cond.lays RX3 "HalfFriends$Reader" "glued" "Z" ∈ WL := wl_of (tb_1 (List.mem_of_getElem? (i := 167) rfl)) rfl
theorem kY_X3_key : Cond.lays RX3 "HalfFriends$Reader" "key" "I" ∈ WL := wl_of (tb_1 (List.mem_of_getElem? (i := 169) rfl)) rfl
theorem kY_X3_leaves : Cond.lays RX3 "HalfFriends$Reader" "leaves" "I" ∈ WL := wl_of (tb_1 (List.mem_of_getElem? (i := 171) rfl)) rfl
theorem kY_X3_stepCount : Cond.lays RX3 "HalfFriends$Reader" "stepCount" "I" ∈ WL := wl_of (tb_1 (List.mem_of_getElem? (i := 173) rfl)) rfl
theorem kCL_X7_45 : Cond.classLink RX7 45 RX4 ∈ WL := wl_of (tb_1 (List.mem_of_getElem? (i := 176) rfl)) rfl
theorem kCL_X7_51 : Cond.classLink RX7 51 RX5 ∈ WL := wl_of (tb_1 (List.mem_of_getElem? (i := 178) rfl)) rfl
theorem kIn_X4 : Cond.instantiable RX4 3 ∈ WL := wl_of (tb_1 (List.mem_of_getElem? (i := 180) rfl)) rfl
theorem kMN_X7_69 : Cond.methodLinkNest RX7 69 yX4_init RX7 ∈ lw_tbl := tb_1 (List.mem_of_getElem? (i := 181) rfl)
theorem kN_X4_init : Cond.instanceMethod yX4_init ∈ WL := wl_of (tb_1 (List.mem_of_getElem? (i := 182) rfl)) rfl
theorem kC_X4_init : Cond.code yX4_init cX4_init 1 none ∈ WL := wl_of (tb_1 (List.mem_of_getElem? (i := 183) rfl)) rfl
theorem kM_X4_3 : Cond.methodLink RX4 3 objectInit ∈ WL := wl_of (tb_1 (List.mem_of_getElem? (i := 184) rfl)) rfl
theorem kF_X4_9 : Cond.fieldLink RX4 9 "HalfFriends$Row" "places" "[I" ∈ WL := wl_of (tb_1 (List.mem_of_getElem? (i := 185) rfl)) rfl
theorem kF_X7_230 : Cond.fieldLink RX7 230 "HalfFriends$Row" "places" "[I" ∈ WL := wl_of (tb_1 (List.mem_of_getElem? (i := 186) rfl)) rfl
theorem kF_X4_15 : Cond.fieldLink RX4 15 "HalfFriends$Row" "sort" "I" ∈ WL := wl_of (tb_1 (List.mem_of_getElem? (i := 187) rfl)) rfl
theorem kF_X7_277 : Cond.fieldLink RX7 277 "HalfFriends$Row" "sort" "I" ∈ WL := wl_of (tb_1 (List.mem_of_getElem? (i := 188) rfl)) rfl
theorem kF_X4_19 : Cond.fieldLink RX4 19 "HalfFriends$Row" "size" "I" ∈ WL := wl_of (tb_1 (List.mem_of_getElem? (i := 189) rfl)) rfl
theorem kF_X7_223 : Cond.fieldLink RX7 223 "HalfFriends$Row" "size" "I" ∈ WL := wl_of (tb_1 (List.mem_of_getElem? (i := 190) rfl)) rfl
theorem kY_X4_places : Cond.laysFinal RX4 "HalfFriends$Row" "places" "[I" ∈ WL := wl_of (tb_1 (List.mem_of_getElem? (i := 191) rfl)) rfl
theorem kY_X4_sort : Cond.lays RX4 "HalfFriends$Row" "sort" "I" ∈ WL := wl_of (tb_1 (List.mem_of_getElem? (i := 193) rfl)) rfl
theorem kY_X4_size : Cond.lays RX4 "HalfFriends$Row" "size" "I" ∈ WL := wl_of (tb_1 (List.mem_of_getElem? (i := 195) rfl)) rfl
theorem kIn_X5 : Cond.instantiable RX5 5 ∈ WL := wl_of (tb_1 (List.mem_of_getElem? (i := 198) rfl)) rfl
theorem kMN_X7_70 : Cond.methodLinkNest RX7 70 yX5_init RX7 ∈ lw_tbl := tb_1 (List.mem_of_getElem? (i := 199) rfl)
theorem kN_X5_init : Cond.instanceMethod yX5_init ∈ WL := wl_of (tb_1 (List.mem_of_getElem? (i := 200) rfl)) rfl
theorem kC_X5_init : Cond.code yX5_init cX5_init 1 none ∈ WL := wl_of (tb_1 (List.mem_of_getElem? (i := 201) rfl)) rfl
theorem kM_X5_3 : Cond.methodLink RX5 3 objectInit ∈ WL := wl_of (tb_1 (List.mem_of_getElem? (i := 202) rfl)) rfl
theorem kCL_X5_9 : Cond.classLink RX5 9 RX4 ∈ WL := wl_of (tb_1 (List.mem_of_getElem? (i := 203) rfl)) rfl
theorem kMN_X5_11 : Cond.methodLinkNest RX5 11 yX4_init RX7 ∈ lw_tbl := tb_1 (List.mem_of_getElem? (i := 204) rfl)
theorem kF_X5_12 : Cond.fieldLink RX5 12 "HalfFriends$Slot" "row" "LHalfFriends$Row;" ∈ WL := wl_of (tb_1 (List.mem_of_getElem? (i := 205) rfl)) rfl
theorem kF_X7_301 : Cond.fieldLink RX7 301 "HalfFriends$Slot" "row" "LHalfFriends$Row;" ∈ WL := wl_of (tb_1 (List.mem_of_getElem? (i := 206) rfl)) rfl
theorem kF_X5_18 : Cond.fieldLink RX5 18 "HalfFriends$Slot" "thing" "I" ∈ WL := wl_of (tb_1 (List.mem_of_getElem? (i := 207) rfl)) rfl
theorem kF_X7_294 : Cond.fieldLink RX7 294 "HalfFriends$Slot" "thing" "I" ∈ WL := wl_of (tb_1 (List.mem_of_getElem? (i := 208) rfl)) rfl
theorem kF_X5_22 : Cond.fieldLink RX5 22 "HalfFriends$Slot" "kind" "I" ∈ WL := wl_of (tb_1 (List.mem_of_getElem? (i := 209) rfl)) rfl
theorem kF_X7_297 : Cond.fieldLink RX7 297 "HalfFriends$Slot" "kind" "I" ∈ WL := wl_of (tb_1 (List.mem_of_getElem? (i := 210) rfl)) rfl
theorem kF_X5_25 : Cond.fieldLink RX5 25 "HalfFriends$Slot" "price" "I" ∈ WL := wl_of (tb_1 (List.mem_of_getElem? (i := 211) rfl)) rfl
theorem kF_X7_299 : Cond.fieldLink RX7 299 "HalfFriends$Slot" "price" "I" ∈ WL := wl_of (tb_1 (List.mem_of_getElem? (i := 212) rfl)) rfl
theorem kF_X5_28 : Cond.fieldLink RX5 28 "HalfFriends$Slot" "number" "I" ∈ WL := wl_of (tb_1 (List.mem_of_getElem? (i := 213) rfl)) rfl
theorem kF_X7_308 : Cond.fieldLink RX7 308 "HalfFriends$Slot" "number" "I" ∈ WL := wl_of (tb_1 (List.mem_of_getElem? (i := 214) rfl)) rfl
theorem kY_X5_row : Cond.laysFinal RX5 "HalfFriends$Slot" "row" "LHalfFriends$Row;" ∈ WL := wl_of (tb_1 (List.mem_of_getElem? (i := 215) rfl)) rfl
theorem kY_X5_thing : Cond.lays RX5 "HalfFriends$Slot" "thing" "I" ∈ WL := wl_of (tb_1 (List.mem_of_getElem? (i := 217) rfl)) rfl
theorem kY_X5_kind : Cond.lays RX5 "HalfFriends$Slot" "kind" "I" ∈ WL := wl_of (tb_1 (List.mem_of_getElem? (i := 219) rfl)) rfl
theorem kY_X5_price : Cond.lays RX5 "HalfFriends$Slot" "price" "I" ∈ WL := wl_of (tb_1 (List.mem_of_getElem? (i := 221) rfl)) rfl
theorem kY_X5_number : Cond.lays RX5 "HalfFriends$Slot" "number" "I" ∈ WL := wl_of (tb_1 (List.mem_of_getElem? (i := 223) rfl)) rfl
theorem kF_X7_10 : Cond.fieldLink RX7 10 "HalfFriends" "book" "LHalfFriends$Book;" ∈ WL := wl_of (tb_1 (List.mem_of_getElem? (i := 226) rfl)) rfl
theorem kF_X7_21 : Cond.fieldLink RX7 21 "HalfFriends" "now" "LHalfFriends$Town;" ∈ WL := wl_of (tb_1 (List.mem_of_getElem? (i := 227) rfl)) rfl
theorem kF_X7_25 : Cond.fieldLink RX7 25 "HalfFriends" "image" "LHalfFriends$Town;" ∈ WL := wl_of (tb_1 (List.mem_of_getElem? (i := 228) rfl)) rfl
theorem kF_X7_28 : Cond.fieldLink RX7 28 "HalfFriends" "thought" "LHalfFriends$Town;" ∈ WL := wl_of (tb_1 (List.mem_of_getElem? (i := 229) rfl)) rfl
theorem kF_X7_34 : Cond.fieldLink RX7 34 "HalfFriends" "order" "LHalfFriends$Order;" ∈ WL := wl_of (tb_1 (List.mem_of_getElem? (i := 230) rfl)) rfl
theorem kF_X7_41 : Cond.fieldLink RX7 41 "HalfFriends" "reader" "LHalfFriends$Reader;" ∈ WL := wl_of (tb_1 (List.mem_of_getElem? (i := 231) rfl)) rfl
theorem kF_X7_47 : Cond.fieldLink RX7 47 "HalfFriends" "sheets" "[LHalfFriends$Row;" ∈ WL := wl_of (tb_1 (List.mem_of_getElem? (i := 232) rfl)) rfl
theorem kF_X7_53 : Cond.fieldLink RX7 53 "HalfFriends" "slots" "[LHalfFriends$Slot;" ∈ WL := wl_of (tb_1 (List.mem_of_getElem? (i := 233) rfl)) rfl
theorem kF_X7_57 : Cond.fieldLink RX7 57 "HalfFriends" "waiting" "[I" ∈ WL := wl_of (tb_1 (List.mem_of_getElem? (i := 234) rfl)) rfl
theorem kF_X7_61 : Cond.fieldLink RX7 61 "HalfFriends" "waits" "I" ∈ WL := wl_of (tb_1 (List.mem_of_getElem? (i := 235) rfl)) rfl
theorem kF_X7_65 : Cond.fieldLink RX7 65 "HalfFriends" "kept" "Z" ∈ WL := wl_of (tb_1 (List.mem_of_getElem? (i := 236) rfl)) rfl
theorem kY_X7_book : Cond.laysFinal RX7 "HalfFriends" "book" "LHalfFriends$Book;" ∈ WL := wl_of (tb_1 (List.mem_of_getElem? (i := 237) rfl)) rfl
theorem kY_X7_now : Cond.laysFinal RX7 "HalfFriends" "now" "LHalfFriends$Town;" ∈ WL := wl_of (tb_1 (List.mem_of_getElem? (i := 239) rfl)) rfl
theorem kY_X7_image : Cond.laysFinal RX7 "HalfFriends" "image" "LHalfFriends$Town;" ∈ WL := wl_of (tb_2 (List.mem_of_getElem? (i := 1) rfl)) rfl
theorem kY_X7_thought : Cond.laysFinal RX7 "HalfFriends" "thought" "LHalfFriends$Town;" ∈ WL := wl_of (tb_2 (List.mem_of_getElem? (i := 3) rfl)) rfl
theorem kY_X7_order : Cond.laysFinal RX7 "HalfFriends" "order" "LHalfFriends$Order;" ∈ WL := wl_of (tb_2 (List.mem_of_getElem? (i := 5) rfl)) rfl
theorem kY_X7_reader : Cond.laysFinal RX7 "HalfFriends" "reader" "LHalfFriends$Reader;" ∈ WL := wl_of (tb_2 (List.mem_of_getElem? (i := 7) rfl)) rfl
theorem kY_X7_sheets : Cond.laysFinal RX7 "HalfFriends" "sheets" "[LHalfFriends$Row;" ∈ WL := wl_of (tb_2 (List.mem_of_getElem? (i := 9) rfl)) rfl
theorem kY_X7_slots : Cond.laysFinal RX7 "HalfFriends" "slots" "[LHalfFriends$Slot;" ∈ WL := wl_of (tb_2 (List.mem_of_getElem? (i := 11) rfl)) rfl
theorem kY_X7_waiting : Cond.laysFinal RX7 "HalfFriends" "waiting" "[I" ∈ WL := wl_of (tb_2 (List.mem_of_getElem? (i := 13) rfl)) rfl
theorem kY_X7_waits : Cond.lays RX7 "HalfFriends" "waits" "I" ∈ WL := wl_of (tb_2 (List.mem_of_getElem? (i := 15) rfl)) rfl
theorem kY_X7_kept : Cond.lays RX7 "HalfFriends" "kept" "Z" ∈ WL := wl_of (tb_2 (List.mem_of_getElem? (i := 17) rfl)) rfl
theorem kM_L_13 : Cond.methodLink RL 13 yX7_person ∈ WL := wl_of (tb_2 (List.mem_of_getElem? (i := 20) rfl)) rfl
theorem kN_X7_person : Cond.instanceMethod yX7_person ∈ WL := wl_of (tb_2 (List.mem_of_getElem? (i := 21) rfl)) rfl
theorem kV_X7_person : Cond.selects RX7 yX7_person yX7_person ∈ WL := wl_of (tb_2 (List.mem_of_getElem? (i := 22) rfl)) rfl
theorem kC_X7_person : Cond.code yX7_person cX7_person 4 (some .int) ∈ WL := wl_of (tb_2 (List.mem_of_getElem? (i := 23) rfl)) rfl
theorem kM_X7_71 : Cond.methodLink RX7 71 yX7_outside ∈ WL := wl_of (tb_2 (List.mem_of_getElem? (i := 24) rfl)) rfl
theorem kS_X7_outside : Cond.static yX7_outside ∈ WL := wl_of (tb_2 (List.mem_of_getElem? (i := 25) rfl)) rfl
theorem kC_X7_outside : Cond.code yX7_outside cX7_outside 3 (some .boolean) ∈ WL := wl_of (tb_2 (List.mem_of_getElem? (i := 26) rfl)) rfl
theorem kK_X7_75 : Cond.constant RX7 75 (-1000000001) ∈ WL := wl_of (tb_2 (List.mem_of_getElem? (i := 27) rfl)) rfl
theorem kK_X7_79 : Cond.constant RX7 79 (-1000000003) ∈ WL := wl_of (tb_2 (List.mem_of_getElem? (i := 28) rfl)) rfl
theorem kM_X7_80 : Cond.methodLink RX7 80 yX6_join ∈ WL := wl_of (tb_2 (List.mem_of_getElem? (i := 29) rfl)) rfl
theorem kN_X6_join : Cond.instanceMethod yX6_join ∈ WL := wl_of (tb_2 (List.mem_of_getElem? (i := 30) rfl)) rfl
theorem kV_X6_join : Cond.selects RX6 yX6_join yX6_join ∈ WL := wl_of (tb_2 (List.mem_of_getElem? (i := 31) rfl)) rfl
theorem kC_X6_join : Cond.code yX6_join cX6_join 4 none ∈ WL := wl_of (tb_2 (List.mem_of_getElem? (i := 32) rfl)) rfl
theorem kM_L_18 : Cond.methodLink RL 18 yX7_told ∈ WL := wl_of (tb_2 (List.mem_of_getElem? (i := 33) rfl)) rfl
theorem kN_X7_told : Cond.instanceMethod yX7_told ∈ WL := wl_of (tb_2 (List.mem_of_getElem? (i := 34) rfl)) rfl
theorem kV_X7_told : Cond.selects RX7 yX7_told yX7_told ∈ WL := wl_of (tb_2 (List.mem_of_getElem? (i := 35) rfl)) rfl
theorem kC_X7_told : Cond.code yX7_told cX7_told 3 (some .int) ∈ WL := wl_of (tb_2 (List.mem_of_getElem? (i := 36) rfl)) rfl
theorem kM_X7_84 : Cond.methodLink RX7 84 yX7_isNobody ∈ WL := wl_of (tb_2 (List.mem_of_getElem? (i := 37) rfl)) rfl
theorem kN_X7_isNobody : Cond.instanceMethod yX7_isNobody ∈ WL := wl_of (tb_2 (List.mem_of_getElem? (i := 39) rfl)) rfl
theorem kC_X7_isNobody : Cond.code yX7_isNobody cX7_isNobody 2 (some .boolean) ∈ WL := wl_of (tb_2 (List.mem_of_getElem? (i := 40) rfl)) rfl
theorem kM_X7_91 : Cond.methodLink RX7 91 yX6_mindOf ∈ WL := wl_of (tb_2 (List.mem_of_getElem? (i := 41) rfl)) rfl
theorem kN_X6_mindOf : Cond.instanceMethod yX6_mindOf ∈ WL := wl_of (tb_2 (List.mem_of_getElem? (i := 42) rfl)) rfl
theorem kV_X6_mindOf : Cond.selects RX6 yX6_mindOf yX6_mindOf ∈ WL := wl_of (tb_2 (List.mem_of_getElem? (i := 43) rfl)) rfl
theorem kC_X6_mindOf : Cond.code yX6_mindOf cX6_mindOf 2 (some .int) ∈ WL := wl_of (tb_2 (List.mem_of_getElem? (i := 44) rfl)) rfl
theorem kM_X7_104 : Cond.methodLink RX7 104 yX6_offOf ∈ WL := wl_of (tb_2 (List.mem_of_getElem? (i := 45) rfl)) rfl
theorem kN_X6_offOf : Cond.instanceMethod yX6_offOf ∈ WL := wl_of (tb_2 (List.mem_of_getElem? (i := 46) rfl)) rfl
theorem kV_X6_offOf : Cond.selects RX6 yX6_offOf yX6_offOf ∈ WL := wl_of (tb_2 (List.mem_of_getElem? (i := 47) rfl)) rfl
theorem kC_X6_offOf : Cond.code yX6_offOf cX6_offOf 2 (some .int) ∈ WL := wl_of (tb_2 (List.mem_of_getElem? (i := 48) rfl)) rfl
theorem kM_X6_80 : Cond.methodLink RX6 80 yX6_off ∈ WL := wl_of (tb_2 (List.mem_of_getElem? (i := 49) rfl)) rfl
theorem kN_X6_off : Cond.instanceMethod yX6_off ∈ WL := wl_of (tb_2 (List.mem_of_getElem? (i := 50) rfl)) rfl
theorem kV_X6_off : Cond.selects RX6 yX6_off yX6_off ∈ WL := wl_of (tb_2 (List.mem_of_getElem? (i := 51) rfl)) rfl
theorem kC_X6_off : Cond.code yX6_off cX6_off 3 (some .int) ∈ WL := wl_of (tb_2 (List.mem_of_getElem? (i := 52) rfl)) rfl
theorem kM_X6_76 : Cond.methodLink RX6 76 yX6_offAmong ∈ WL := wl_of (tb_2 (List.mem_of_getElem? (i := 53) rfl)) rfl
theorem kS_X6_offAmong : Cond.static yX6_offAmong ∈ WL := wl_of (tb_2 (List.mem_of_getElem? (i := 54) rfl)) rfl
theorem kC_X6_offAmong : Cond.code yX6_offAmong cX6_offAmong 2 (some .int) ∈ WL := wl_of (tb_2 (List.mem_of_getElem? (i := 55) rfl)) rfl
theorem kM_X6_65 : Cond.methodLink RX6 65 yJ6_bitCount_0f7a4 ∈ WL := wl_of (tb_2 (List.mem_of_getElem? (i := 56) rfl)) rfl
theorem kS_J6_bitCount_0f7a4 : Cond.static yJ6_bitCount_0f7a4 ∈ WL := wl_of (tb_2 (List.mem_of_getElem? (i := 57) rfl)) rfl
theorem kC_J6_bitCount_0f7a4 : Cond.code yJ6_bitCount_0f7a4 cJ6_bitCount_0f7a4 1 (some .int) ∈ WL := wl_of (tb_2 (List.mem_of_getElem? (i := 58) rfl)) rfl
theorem kK_J6_265 : Cond.constant RJ6 265 (1431655765) ∈ WL := wl_of (tb_2 (List.mem_of_getElem? (i := 59) rfl)) rfl
theorem kK_J6_266 : Cond.constant RJ6 266 (858993459) ∈ WL := wl_of (tb_2 (List.mem_of_getElem? (i := 60) rfl)) rfl
theorem kK_J6_267 : Cond.constant RJ6 267 (252645135) ∈ WL := wl_of (tb_2 (List.mem_of_getElem? (i := 61) rfl)) rfl
theorem kM_X6_71 : Cond.methodLink RX6 71 Lib.Math.abs.name ∈ WL := wl_of (tb_2 (List.mem_of_getElem? (i := 62) rfl)) rfl
theorem kS_Math_abs : Cond.static Lib.Math.abs.name ∈ WL := wl_of (tb_2 (List.mem_of_getElem? (i := 63) rfl)) rfl
theorem kC_Math_abs : Cond.code Lib.Math.abs.name Lib.Math.abs.code 1 (some .int) ∈ WL := wl_of (tb_2 (List.mem_of_getElem? (i := 64) rfl)) rfl
theorem kM_X7_107 : Cond.methodLink RX7 107 yX6_owes ∈ WL := wl_of (tb_2 (List.mem_of_getElem? (i := 65) rfl)) rfl
theorem kN_X6_owes : Cond.instanceMethod yX6_owes ∈ WL := wl_of (tb_2 (List.mem_of_getElem? (i := 66) rfl)) rfl
theorem kV_X6_owes : Cond.selects RX6 yX6_owes yX6_owes ∈ WL := wl_of (tb_2 (List.mem_of_getElem? (i := 67) rfl)) rfl
theorem kC_X6_owes : Cond.code yX6_owes cX6_owes 5 (some .int) ∈ WL := wl_of (tb_2 (List.mem_of_getElem? (i := 68) rfl)) rfl
theorem kM_X6_83 : Cond.methodLink RX6 83 yX6_offOf ∈ WL := wl_of (tb_2 (List.mem_of_getElem? (i := 69) rfl)) rfl
theorem kM_X6_86 : Cond.methodLink RX6 86 yX0_counts ∈ WL := wl_of (tb_2 (List.mem_of_getElem? (i := 70) rfl)) rfl
theorem kN_X0_counts : Cond.instanceMethod yX0_counts ∈ WL := wl_of (tb_2 (List.mem_of_getElem? (i := 71) rfl)) rfl
theorem kV_X0_counts : Cond.selects RX0 yX0_counts yX0_counts ∈ WL := wl_of (tb_2 (List.mem_of_getElem? (i := 72) rfl)) rfl
theorem kC_X0_counts : Cond.code yX0_counts cX0_counts 4 (some .int) ∈ WL := wl_of (tb_2 (List.mem_of_getElem? (i := 73) rfl)) rfl
theorem kM_X0_48 : Cond.methodLink RX0 48 Lib.Math.min.name ∈ WL := wl_of (tb_2 (List.mem_of_getElem? (i := 74) rfl)) rfl
theorem kS_Math_min : Cond.static Lib.Math.min.name ∈ WL := wl_of (tb_2 (List.mem_of_getElem? (i := 75) rfl)) rfl
theorem kC_Math_min : Cond.code Lib.Math.min.name Lib.Math.min.code 2 (some .int) ∈ WL := wl_of (tb_2 (List.mem_of_getElem? (i := 76) rfl)) rfl
theorem kM_X6_91 : Cond.methodLink RX6 91 yX6_mindOf ∈ WL := wl_of (tb_2 (List.mem_of_getElem? (i := 77) rfl)) rfl
theorem kM_X6_94 : Cond.methodLink RX6 94 yX0_gives ∈ WL := wl_of (tb_2 (List.mem_of_getElem? (i := 78) rfl)) rfl
theorem kN_X0_gives : Cond.instanceMethod yX0_gives ∈ WL := wl_of (tb_2 (List.mem_of_getElem? (i := 79) rfl)) rfl
theorem kV_X0_gives : Cond.selects RX0 yX0_gives yX0_gives ∈ WL := wl_of (tb_2 (List.mem_of_getElem? (i := 80) rfl)) rfl
theorem kC_X0_gives : Cond.code yX0_gives cX0_gives 9 (some .int) ∈ WL := wl_of (tb_2 (List.mem_of_getElem? (i := 81) rfl)) rfl
theorem kM_X0_54 : Cond.methodLink RX0 54 yX0_leaf ∈ WL := wl_of (tb_2 (List.mem_of_getElem? (i := 82) rfl)) rfl
theorem kS_X0_leaf : Cond.static yX0_leaf ∈ WL := wl_of (tb_2 (List.mem_of_getElem? (i := 83) rfl)) rfl
theorem kC_X0_leaf : Cond.code yX0_leaf cX0_leaf 4 (some .int) ∈ WL := wl_of (tb_2 (List.mem_of_getElem? (i := 84) rfl)) rfl
theorem kM_X0_58 : Cond.methodLink RX0 58 yX0_joined ∈ WL := wl_of (tb_2 (List.mem_of_getElem? (i := 85) rfl)) rfl
theorem kS_X0_joined : Cond.static yX0_joined ∈ WL := wl_of (tb_2 (List.mem_of_getElem? (i := 86) rfl)) rfl
theorem kC_X0_joined : Cond.code yX0_joined cX0_joined 3 (some .int) ∈ WL := wl_of (tb_2 (List.mem_of_getElem? (i := 87) rfl)) rfl
theorem kM_X6_98 : Cond.methodLink RX6 98 Lib.Math.min.name ∈ WL := wl_of (tb_2 (List.mem_of_getElem? (i := 88) rfl)) rfl
theorem kM_X6_101 : Cond.methodLink RX6 101 Lib.Math.max.name ∈ WL := wl_of (tb_2 (List.mem_of_getElem? (i := 89) rfl)) rfl
theorem kS_Math_max : Cond.static Lib.Math.max.name ∈ WL := wl_of (tb_2 (List.mem_of_getElem? (i := 90) rfl)) rfl
theorem kC_Math_max : Cond.code Lib.Math.max.name Lib.Math.max.code 2 (some .int) ∈ WL := wl_of (tb_2 (List.mem_of_getElem? (i := 91) rfl)) rfl
theorem kM_X6_104 : Cond.methodLink RX6 104 yX1_owes ∈ WL := wl_of (tb_2 (List.mem_of_getElem? (i := 92) rfl)) rfl
theorem kS_X1_owes : Cond.static yX1_owes ∈ WL := wl_of (tb_2 (List.mem_of_getElem? (i := 93) rfl)) rfl
theorem kC_X1_owes : Cond.code yX1_owes cX1_owes 2 (some .int) ∈ WL := wl_of (tb_2 (List.mem_of_getElem? (i := 94) rfl)) rfl
theorem kM_X1_15 : Cond.methodLink RX1 15 Lib.Math.max.name ∈ WL := wl_of (tb_2 (List.mem_of_getElem? (i := 95) rfl)) rfl
theorem kM_X7_110 : Cond.methodLink RX7 110 yX6_asks ∈ WL := wl_of (tb_2 (List.mem_of_getElem? (i := 96) rfl)) rfl
theorem kN_X6_asks : Cond.instanceMethod yX6_asks ∈ WL := wl_of (tb_2 (List.mem_of_getElem? (i := 97) rfl)) rfl
theorem kV_X6_asks : Cond.selects RX6 yX6_asks yX6_asks ∈ WL := wl_of (tb_2 (List.mem_of_getElem? (i := 98) rfl)) rfl
theorem kC_X6_asks : Cond.code yX6_asks cX6_asks 2 (some .int) ∈ WL := wl_of (tb_2 (List.mem_of_getElem? (i := 99) rfl)) rfl
theorem kM_X6_109 : Cond.methodLink RX6 109 yX1_asks ∈ WL := wl_of (tb_2 (List.mem_of_getElem? (i := 100) rfl)) rfl
theorem kS_X1_asks : Cond.static yX1_asks ∈ WL := wl_of (tb_2 (List.mem_of_getElem? (i := 101) rfl)) rfl
theorem kC_X1_asks : Cond.code yX1_asks cX1_asks 2 (some .int) ∈ WL := wl_of (tb_2 (List.mem_of_getElem? (i := 102) rfl)) rfl
theorem kM_X7_113 : Cond.methodLink RX7 113 yX1_worth ∈ WL := wl_of (tb_2 (List.mem_of_getElem? (i := 103) rfl)) rfl
theorem kS_X1_worth : Cond.static yX1_worth ∈ WL := wl_of (tb_2 (List.mem_of_getElem? (i := 104) rfl)) rfl
theorem kC_X1_worth : Cond.code yX1_worth cX1_worth 2 (some .int) ∈ WL := wl_of (tb_2 (List.mem_of_getElem? (i := 105) rfl)) rfl
theorem kM_L_23 : Cond.methodLink RL 23 yX7_as ∈ WL := wl_of (tb_2 (List.mem_of_getElem? (i := 106) rfl)) rfl
theorem kN_X7_as : Cond.instanceMethod yX7_as ∈ WL := wl_of (tb_2 (List.mem_of_getElem? (i := 107) rfl)) rfl
theorem kV_X7_as : Cond.selects RX7 yX7_as yX7_as ∈ WL := wl_of (tb_2 (List.mem_of_getElem? (i := 108) rfl)) rfl
theorem kC_X7_as : Cond.code yX7_as cX7_as 3 (some .int) ∈ WL := wl_of (tb_2 (List.mem_of_getElem? (i := 109) rfl)) rfl
theorem kM_X7_119 : Cond.methodLink RX7 119 yX1_isOf ∈ WL := wl_of (tb_2 (List.mem_of_getElem? (i := 110) rfl)) rfl
theorem kS_X1_isOf : Cond.static yX1_isOf ∈ WL := wl_of (tb_2 (List.mem_of_getElem? (i := 111) rfl)) rfl
theorem kC_X1_isOf : Cond.code yX1_isOf cX1_isOf 4 (some .boolean) ∈ WL := wl_of (tb_2 (List.mem_of_getElem? (i := 112) rfl)) rfl
theorem kF_X1_9 : Cond.fieldLink RX1 9 "HalfFriends$Kinds" "ABOVE" "[I" ∈ WL := wl_of (tb_2 (List.mem_of_getElem? (i := 113) rfl)) rfl
theorem kYS_X1_ABOVE : Cond.laysStatic RX1 "ABOVE" "[I" ∈ lw_tbl := tb_2 (List.mem_of_getElem? (i := 114) rfl)
theorem kK_X7_123 : Cond.constant RX7 123 (-1000000012) ∈ WL := wl_of (tb_2 (List.mem_of_getElem? (i := 115) rfl)) rfl
theorem kM_L_27 : Cond.methodLink RL 27 yX7_turns ∈ WL := wl_of (tb_2 (List.mem_of_getElem? (i := 116) rfl)) rfl
theorem kN_X7_turns : Cond.instanceMethod yX7_turns ∈ WL := wl_of (tb_2 (List.mem_of_getElem? (i := 117) rfl)) rfl
theorem kV_X7_turns : Cond.selects RX7 yX7_turns yX7_turns ∈ WL := wl_of (tb_2 (List.mem_of_getElem? (i := 118) rfl)) rfl
theorem kC_X7_turns : Cond.code yX7_turns cX7_turns 4 (some .int) ∈ WL := wl_of (tb_2 (List.mem_of_getElem? (i := 119) rfl)) rfl
theorem kM_L_31 : Cond.methodLink RL 31 yX7_set ∈ WL := wl_of (tb_2 (List.mem_of_getElem? (i := 120) rfl)) rfl
theorem kN_X7_set : Cond.instanceMethod yX7_set ∈ WL := wl_of (tb_2 (List.mem_of_getElem? (i := 121) rfl)) rfl
theorem kV_X7_set : Cond.selects RX7 yX7_set yX7_set ∈ WL := wl_of (tb_2 (List.mem_of_getElem? (i := 122) rfl)) rfl
theorem kC_X7_set : Cond.code yX7_set cX7_set 4 (some .int) ∈ WL := wl_of (tb_2 (List.mem_of_getElem? (i := 123) rfl)) rfl
theorem kM_X7_124 : Cond.methodLink RX7 124 yX7_setMind ∈ WL := wl_of (tb_2 (List.mem_of_getElem? (i := 124) rfl)) rfl
theorem kN_X7_setMind : Cond.instanceMethod yX7_setMind ∈ WL := wl_of (tb_2 (List.mem_of_getElem? (i := 126) rfl)) rfl
theorem kC_X7_setMind : Cond.code yX7_setMind cX7_setMind 4 (some .int) ∈ WL := wl_of (tb_2 (List.mem_of_getElem? (i := 127) rfl)) rfl
theorem kM_X7_133 : Cond.methodLink RX7 133 yX6_flip ∈ WL := wl_of (tb_2 (List.mem_of_getElem? (i := 128) rfl)) rfl
theorem kN_X6_flip : Cond.instanceMethod yX6_flip ∈ WL := wl_of (tb_2 (List.mem_of_getElem? (i := 129) rfl)) rfl
theorem kV_X6_flip : Cond.selects RX6 yX6_flip yX6_flip ∈ WL := wl_of (tb_2 (List.mem_of_getElem? (i := 130) rfl)) rfl
theorem kC_X6_flip : Cond.code yX6_flip cX6_flip 2 none ∈ WL := wl_of (tb_2 (List.mem_of_getElem? (i := 131) rfl)) rfl
theorem kM_X7_127 : Cond.methodLink RX7 127 yX7_setPrice ∈ WL := wl_of (tb_2 (List.mem_of_getElem? (i := 132) rfl)) rfl
theorem kN_X7_setPrice : Cond.instanceMethod yX7_setPrice ∈ WL := wl_of (tb_2 (List.mem_of_getElem? (i := 134) rfl)) rfl
theorem kC_X7_setPrice : Cond.code yX7_setPrice cX7_setPrice 4 (some .int) ∈ WL := wl_of (tb_2 (List.mem_of_getElem? (i := 135) rfl)) rfl
theorem kM_X7_130 : Cond.methodLink RX7 130 yX7_setPurse ∈ WL := wl_of (tb_2 (List.mem_of_getElem? (i := 136) rfl)) rfl
theorem kN_X7_setPurse : Cond.instanceMethod yX7_setPurse ∈ WL := wl_of (tb_2 (List.mem_of_getElem? (i := 138) rfl)) rfl
theorem kC_X7_setPurse : Cond.code yX7_setPurse cX7_setPurse 4 (some .int) ∈ WL := wl_of (tb_2 (List.mem_of_getElem? (i := 139) rfl)) rfl
theorem kM_L_35 : Cond.methodLink RL 35 yX7_friends ∈ WL := wl_of (tb_2 (List.mem_of_getElem? (i := 140) rfl)) rfl
theorem kN_X7_friends : Cond.instanceMethod yX7_friends ∈ WL := wl_of (tb_2 (List.mem_of_getElem? (i := 141) rfl)) rfl
theorem kV_X7_friends : Cond.selects RX7 yX7_friends yX7_friends ∈ WL := wl_of (tb_2 (List.mem_of_getElem? (i := 142) rfl)) rfl
theorem kC_X7_friends : Cond.code yX7_friends cX7_friends 5 (some .int) ∈ WL := wl_of (tb_2 (List.mem_of_getElem? (i := 143) rfl)) rfl
theorem kM_X7_137 : Cond.methodLink RX7 137 yX6_areFriends ∈ WL := wl_of (tb_2 (List.mem_of_getElem? (i := 144) rfl)) rfl
theorem kN_X6_areFriends : Cond.instanceMethod yX6_areFriends ∈ WL := wl_of (tb_2 (List.mem_of_getElem? (i := 145) rfl)) rfl
theorem kV_X6_areFriends : Cond.selects RX6 yX6_areFriends yX6_areFriends ∈ WL := wl_of (tb_2 (List.mem_of_getElem? (i := 146) rfl)) rfl
theorem kC_X6_areFriends : Cond.code yX6_areFriends cX6_areFriends 3 (some .boolean) ∈ WL := wl_of (tb_2 (List.mem_of_getElem? (i := 147) rfl)) rfl
theorem kM_L_39 : Cond.methodLink RL 39 yX7_rule ∈ WL := wl_of (tb_2 (List.mem_of_getElem? (i := 148) rfl)) rfl
theorem kN_X7_rule : Cond.instanceMethod yX7_rule ∈ WL := wl_of (tb_2 (List.mem_of_getElem? (i := 149) rfl)) rfl
theorem kV_X7_rule : Cond.selects RX7 yX7_rule yX7_rule ∈ WL := wl_of (tb_2 (List.mem_of_getElem? (i := 150) rfl)) rfl
theorem kC_X7_rule : Cond.code yX7_rule cX7_rule 4 (some .int) ∈ WL := wl_of (tb_2 (List.mem_of_getElem? (i := 151) rfl)) rfl
theorem kM_L_43 : Cond.methodLink RL 43 yX7_deal ∈ WL := wl_of (tb_2 (List.mem_of_getElem? (i := 152) rfl)) rfl
theorem kN_X7_deal : Cond.instanceMethod yX7_deal ∈ WL := wl_of (tb_2 (List.mem_of_getElem? (i := 153) rfl)) rfl
theorem kV_X7_deal : Cond.selects RX7 yX7_deal yX7_deal ∈ WL := wl_of (tb_2 (List.mem_of_getElem? (i := 154) rfl)) rfl
theorem kC_X7_deal : Cond.code yX7_deal cX7_deal 7 (some .int) ∈ WL := wl_of (tb_2 (List.mem_of_getElem? (i := 155) rfl)) rfl
theorem kM_X7_149 : Cond.methodLink RX7 149 Lib.Math.min.name ∈ WL := wl_of (tb_2 (List.mem_of_getElem? (i := 156) rfl)) rfl
theorem kM_X7_154 : Cond.methodLink RX7 154 yX6_draw ∈ WL := wl_of (tb_2 (List.mem_of_getElem? (i := 157) rfl)) rfl
theorem kN_X6_draw : Cond.instanceMethod yX6_draw ∈ WL := wl_of (tb_2 (List.mem_of_getElem? (i := 158) rfl)) rfl
theorem kV_X6_draw : Cond.selects RX6 yX6_draw yX6_draw ∈ WL := wl_of (tb_2 (List.mem_of_getElem? (i := 159) rfl)) rfl
theorem kC_X6_draw : Cond.code yX6_draw cX6_draw 1 (some .int) ∈ WL := wl_of (tb_2 (List.mem_of_getElem? (i := 160) rfl)) rfl
theorem kK_X6_112 : Cond.constant RX6 112 (1103515245) ∈ WL := wl_of (tb_2 (List.mem_of_getElem? (i := 161) rfl)) rfl
theorem kM_L_48 : Cond.methodLink RL 48 yX7_seed ∈ WL := wl_of (tb_2 (List.mem_of_getElem? (i := 162) rfl)) rfl
theorem kN_X7_seed : Cond.instanceMethod yX7_seed ∈ WL := wl_of (tb_2 (List.mem_of_getElem? (i := 163) rfl)) rfl
theorem kV_X7_seed : Cond.selects RX7 yX7_seed yX7_seed ∈ WL := wl_of (tb_2 (List.mem_of_getElem? (i := 164) rfl)) rfl
theorem kC_X7_seed : Cond.code yX7_seed cX7_seed 3 (some .int) ∈ WL := wl_of (tb_2 (List.mem_of_getElem? (i := 165) rfl)) rfl
theorem kM_L_52 : Cond.methodLink RL 52 yX7_town ∈ WL := wl_of (tb_2 (List.mem_of_getElem? (i := 166) rfl)) rfl
theorem kN_X7_town : Cond.instanceMethod yX7_town ∈ WL := wl_of (tb_2 (List.mem_of_getElem? (i := 167) rfl)) rfl
theorem kV_X7_town : Cond.selects RX7 yX7_town yX7_town ∈ WL := wl_of (tb_2 (List.mem_of_getElem? (i := 168) rfl)) rfl
theorem kC_X7_town : Cond.code yX7_town cX7_town 2 (some .int) ∈ WL := wl_of (tb_2 (List.mem_of_getElem? (i := 169) rfl)) rfl
theorem kM_X7_161 : Cond.methodLink RX7 161 yX6_offTogether ∈ WL := wl_of (tb_2 (List.mem_of_getElem? (i := 170) rfl)) rfl
theorem kN_X6_offTogether : Cond.instanceMethod yX6_offTogether ∈ WL := wl_of (tb_2 (List.mem_of_getElem? (i := 171) rfl)) rfl
theorem kV_X6_offTogether : Cond.selects RX6 yX6_offTogether yX6_offTogether ∈ WL := wl_of (tb_2 (List.mem_of_getElem? (i := 172) rfl)) rfl
theorem kC_X6_offTogether : Cond.code yX6_offTogether cX6_offTogether 3 (some .int) ∈ WL := wl_of (tb_2 (List.mem_of_getElem? (i := 173) rfl)) rfl
theorem kM_X7_173 : Cond.methodLink RX7 173 yX6_unruly ∈ WL := wl_of (tb_2 (List.mem_of_getElem? (i := 174) rfl)) rfl
theorem kN_X6_unruly : Cond.instanceMethod yX6_unruly ∈ WL := wl_of (tb_2 (List.mem_of_getElem? (i := 175) rfl)) rfl
theorem kV_X6_unruly : Cond.selects RX6 yX6_unruly yX6_unruly ∈ WL := wl_of (tb_2 (List.mem_of_getElem? (i := 176) rfl)) rfl
theorem kC_X6_unruly : Cond.code yX6_unruly cX6_unruly 4 (some .int) ∈ WL := wl_of (tb_2 (List.mem_of_getElem? (i := 177) rfl)) rfl
theorem kM_X7_176 : Cond.methodLink RX7 176 yX6_oddOnes ∈ WL := wl_of (tb_2 (List.mem_of_getElem? (i := 178) rfl)) rfl
theorem kN_X6_oddOnes : Cond.instanceMethod yX6_oddOnes ∈ WL := wl_of (tb_2 (List.mem_of_getElem? (i := 179) rfl)) rfl
theorem kV_X6_oddOnes : Cond.selects RX6 yX6_oddOnes yX6_oddOnes ∈ WL := wl_of (tb_2 (List.mem_of_getElem? (i := 180) rfl)) rfl
theorem kC_X6_oddOnes : Cond.code yX6_oddOnes cX6_oddOnes 3 (some .int) ∈ WL := wl_of (tb_2 (List.mem_of_getElem? (i := 181) rfl)) rfl
theorem kM_L_56 : Cond.methodLink RL 56 yX7_ways ∈ WL := wl_of (tb_2 (List.mem_of_getElem? (i := 182) rfl)) rfl
theorem kN_X7_ways : Cond.instanceMethod yX7_ways ∈ WL := wl_of (tb_2 (List.mem_of_getElem? (i := 183) rfl)) rfl
theorem kV_X7_ways : Cond.selects RX7 yX7_ways yX7_ways ∈ WL := wl_of (tb_2 (List.mem_of_getElem? (i := 184) rfl)) rfl
theorem kC_X7_ways : Cond.code yX7_ways cX7_ways 1 (some .int) ∈ WL := wl_of (tb_2 (List.mem_of_getElem? (i := 185) rfl)) rfl
theorem kM_X7_179 : Cond.methodLink RX7 179 yX2_scan ∈ WL := wl_of (tb_2 (List.mem_of_getElem? (i := 186) rfl)) rfl
theorem kN_X2_scan : Cond.instanceMethod yX2_scan ∈ WL := wl_of (tb_2 (List.mem_of_getElem? (i := 187) rfl)) rfl
theorem kV_X2_scan : Cond.selects RX2 yX2_scan yX2_scan ∈ WL := wl_of (tb_2 (List.mem_of_getElem? (i := 188) rfl)) rfl
theorem kC_X2_scan : Cond.code yX2_scan cX2_scan 5 none ∈ WL := wl_of (tb_2 (List.mem_of_getElem? (i := 189) rfl)) rfl
theorem kM_X2_19 : Cond.methodLink RX2 19 yX6_fixedOnes ∈ WL := wl_of (tb_2 (List.mem_of_getElem? (i := 190) rfl)) rfl
theorem kN_X6_fixedOnes : Cond.instanceMethod yX6_fixedOnes ∈ WL := wl_of (tb_2 (List.mem_of_getElem? (i := 191) rfl)) rfl
theorem kV_X6_fixedOnes : Cond.selects RX6 yX6_fixedOnes yX6_fixedOnes ∈ WL := wl_of (tb_2 (List.mem_of_getElem? (i := 192) rfl)) rfl
theorem kC_X6_fixedOnes : Cond.code yX6_fixedOnes cX6_fixedOnes 3 (some .int) ∈ WL := wl_of (tb_2 (List.mem_of_getElem? (i := 193) rfl)) rfl
theorem kM_X2_28 : Cond.methodLink RX2 28 Lib.Math.min.name ∈ WL := wl_of (tb_2 (List.mem_of_getElem? (i := 194) rfl)) rfl
theorem kM_X2_37 : Cond.methodLink RX2 37 yX6_unruly ∈ WL := wl_of (tb_2 (List.mem_of_getElem? (i := 195) rfl)) rfl
theorem kM_X7_183 : Cond.methodLink RX7 183 yX2_howMany ∈ WL := wl_of (tb_2 (List.mem_of_getElem? (i := 196) rfl)) rfl
theorem kN_X2_howMany : Cond.instanceMethod yX2_howMany ∈ WL := wl_of (tb_2 (List.mem_of_getElem? (i := 197) rfl)) rfl
theorem kV_X2_howMany : Cond.selects RX2 yX2_howMany yX2_howMany ∈ WL := wl_of (tb_2 (List.mem_of_getElem? (i := 198) rfl)) rfl
theorem kC_X2_howMany : Cond.code yX2_howMany cX2_howMany 3 (some .int) ∈ WL := wl_of (tb_2 (List.mem_of_getElem? (i := 199) rfl)) rfl
theorem kM_L_61 : Cond.methodLink RL 61 yX7_minds ∈ WL := wl_of (tb_2 (List.mem_of_getElem? (i := 200) rfl)) rfl
theorem kN_X7_minds : Cond.instanceMethod yX7_minds ∈ WL := wl_of (tb_2 (List.mem_of_getElem? (i := 201) rfl)) rfl
theorem kV_X7_minds : Cond.selects RX7 yX7_minds yX7_minds ∈ WL := wl_of (tb_2 (List.mem_of_getElem? (i := 202) rfl)) rfl
theorem kC_X7_minds : Cond.code yX7_minds cX7_minds 2 (some .int) ∈ WL := wl_of (tb_2 (List.mem_of_getElem? (i := 203) rfl)) rfl
theorem kM_X7_186 : Cond.methodLink RX7 186 yX2_chosen ∈ WL := wl_of (tb_2 (List.mem_of_getElem? (i := 204) rfl)) rfl
theorem kN_X2_chosen : Cond.instanceMethod yX2_chosen ∈ WL := wl_of (tb_2 (List.mem_of_getElem? (i := 205) rfl)) rfl
theorem kV_X2_chosen : Cond.selects RX2 yX2_chosen yX2_chosen ∈ WL := wl_of (tb_2 (List.mem_of_getElem? (i := 206) rfl)) rfl
theorem kC_X2_chosen : Cond.code yX2_chosen cX2_chosen 7 (some .int) ∈ WL := wl_of (tb_2 (List.mem_of_getElem? (i := 207) rfl)) rfl
theorem kK_X2_40 : Cond.constant RX2 40 (-1000000005) ∈ WL := wl_of (tb_2 (List.mem_of_getElem? (i := 208) rfl)) rfl
theorem kM_X2_41 : Cond.methodLink RX2 41 yX2_cost ∈ WL := wl_of (tb_2 (List.mem_of_getElem? (i := 209) rfl)) rfl
theorem kS_X2_cost : Cond.static yX2_cost ∈ WL := wl_of (tb_2 (List.mem_of_getElem? (i := 210) rfl)) rfl
theorem kC_X2_cost : Cond.code yX2_cost cX2_cost 3 (some .int) ∈ WL := wl_of (tb_2 (List.mem_of_getElem? (i := 211) rfl)) rfl
theorem kM_X2_45 : Cond.methodLink RX2 45 yJ6_bitCount_0f7a4 ∈ WL := wl_of (tb_2 (List.mem_of_getElem? (i := 212) rfl)) rfl
theorem kM_X2_50 : Cond.methodLink RX2 50 yX2_priceOf ∈ WL := wl_of (tb_2 (List.mem_of_getElem? (i := 213) rfl)) rfl
theorem kS_X2_priceOf : Cond.static yX2_priceOf ∈ WL := wl_of (tb_2 (List.mem_of_getElem? (i := 214) rfl)) rfl
theorem kC_X2_priceOf : Cond.code yX2_priceOf cX2_priceOf 4 (some .int) ∈ WL := wl_of (tb_2 (List.mem_of_getElem? (i := 215) rfl)) rfl
theorem kM_X2_54 : Cond.methodLink RX2 54 yX6_asks ∈ WL := wl_of (tb_2 (List.mem_of_getElem? (i := 216) rfl)) rfl
theorem kM_L_65 : Cond.methodLink RL 65 yX7_freedom ∈ WL := wl_of (tb_2 (List.mem_of_getElem? (i := 217) rfl)) rfl
theorem kN_X7_freedom : Cond.instanceMethod yX7_freedom ∈ WL := wl_of (tb_2 (List.mem_of_getElem? (i := 218) rfl)) rfl
theorem kV_X7_freedom : Cond.selects RX7 yX7_freedom yX7_freedom ∈ WL := wl_of (tb_2 (List.mem_of_getElem? (i := 219) rfl)) rfl
theorem kC_X7_freedom : Cond.code yX7_freedom cX7_freedom 1 (some .int) ∈ WL := wl_of (tb_2 (List.mem_of_getElem? (i := 220) rfl)) rfl
theorem kM_X7_190 : Cond.methodLink RX7 190 yX2_free ∈ WL := wl_of (tb_2 (List.mem_of_getElem? (i := 221) rfl)) rfl
theorem kN_X2_free : Cond.instanceMethod yX2_free ∈ WL := wl_of (tb_2 (List.mem_of_getElem? (i := 222) rfl)) rfl
theorem kV_X2_free : Cond.selects RX2 yX2_free yX2_free ∈ WL := wl_of (tb_2 (List.mem_of_getElem? (i := 223) rfl)) rfl
theorem kC_X2_free : Cond.code yX2_free cX2_free 4 (some .int) ∈ WL := wl_of (tb_2 (List.mem_of_getElem? (i := 224) rfl)) rfl
theorem kM_L_69 : Cond.methodLink RL 69 yX7_together ∈ WL := wl_of (tb_2 (List.mem_of_getElem? (i := 225) rfl)) rfl
theorem kN_X7_together : Cond.instanceMethod yX7_together ∈ WL := wl_of (tb_2 (List.mem_of_getElem? (i := 226) rfl)) rfl
theorem kV_X7_together : Cond.selects RX7 yX7_together yX7_together ∈ WL := wl_of (tb_2 (List.mem_of_getElem? (i := 227) rfl)) rfl
theorem kC_X7_together : Cond.code yX7_together cX7_together 1 (some .int) ∈ WL := wl_of (tb_2 (List.mem_of_getElem? (i := 228) rfl)) rfl
theorem kK_X7_193 : Cond.constant RX7 193 (-1000000002) ∈ WL := wl_of (tb_2 (List.mem_of_getElem? (i := 229) rfl)) rfl
theorem kM_X7_194 : Cond.methodLink RX7 194 yX2_nearest ∈ WL := wl_of (tb_2 (List.mem_of_getElem? (i := 230) rfl)) rfl
theorem kN_X2_nearest : Cond.instanceMethod yX2_nearest ∈ WL := wl_of (tb_2 (List.mem_of_getElem? (i := 231) rfl)) rfl
theorem kV_X2_nearest : Cond.selects RX2 yX2_nearest yX2_nearest ∈ WL := wl_of (tb_2 (List.mem_of_getElem? (i := 232) rfl)) rfl
theorem kC_X2_nearest : Cond.code yX2_nearest cX2_nearest 5 (some .int) ∈ WL := wl_of (tb_2 (List.mem_of_getElem? (i := 233) rfl)) rfl
theorem kM_L_73 : Cond.methodLink RL 73 yX7_best ∈ WL := wl_of (tb_2 (List.mem_of_getElem? (i := 234) rfl)) rfl
theorem kN_X7_best : Cond.instanceMethod yX7_best ∈ WL := wl_of (tb_2 (List.mem_of_getElem? (i := 235) rfl)) rfl
theorem kV_X7_best : Cond.selects RX7 yX7_best yX7_best ∈ WL := wl_of (tb_2 (List.mem_of_getElem? (i := 236) rfl)) rfl
theorem kC_X7_best : Cond.code yX7_best cX7_best 9 (some .int) ∈ WL := wl_of (tb_2 (List.mem_of_getElem? (i := 237) rfl)) rfl
theorem kK_X7_197 : Cond.constant RX7 197 (-1000000005) ∈ WL := wl_of (tb_2 (List.mem_of_getElem? (i := 238) rfl)) rfl
theorem kM_X7_198 : Cond.methodLink RX7 198 yX2_howManyTurned ∈ WL := wl_of (tb_2 (List.mem_of_getElem? (i := 239) rfl)) rfl
theorem kN_X2_howManyTurned : Cond.instanceMethod yX2_howManyTurned ∈ WL := wl_of (tb_3 (List.mem_of_getElem? (i := 0) rfl)) rfl
theorem kV_X2_howManyTurned : Cond.selects RX2 yX2_howManyTurned yX2_howManyTurned ∈ WL := wl_of (tb_3 (List.mem_of_getElem? (i := 1) rfl)) rfl
theorem kC_X2_howManyTurned : Cond.code yX2_howManyTurned cX2_howManyTurned 9 (some .int) ∈ WL := wl_of (tb_3 (List.mem_of_getElem? (i := 2) rfl)) rfl
theorem kM_X2_60 : Cond.methodLink RX2 60 yX6_offAmong ∈ WL := wl_of (tb_3 (List.mem_of_getElem? (i := 3) rfl)) rfl
theorem kM_L_77 : Cond.methodLink RL 77 yX7_years ∈ WL := wl_of (tb_3 (List.mem_of_getElem? (i := 4) rfl)) rfl
theorem kN_X7_years : Cond.instanceMethod yX7_years ∈ WL := wl_of (tb_3 (List.mem_of_getElem? (i := 5) rfl)) rfl
theorem kV_X7_years : Cond.selects RX7 yX7_years yX7_years ∈ WL := wl_of (tb_3 (List.mem_of_getElem? (i := 6) rfl)) rfl
theorem kC_X7_years : Cond.code yX7_years cX7_years 3 (some .int) ∈ WL := wl_of (tb_3 (List.mem_of_getElem? (i := 7) rfl)) rfl
theorem kM_X7_205 : Cond.methodLink RX7 205 yX6_pass ∈ WL := wl_of (tb_3 (List.mem_of_getElem? (i := 8) rfl)) rfl
theorem kN_X6_pass : Cond.instanceMethod yX6_pass ∈ WL := wl_of (tb_3 (List.mem_of_getElem? (i := 9) rfl)) rfl
theorem kV_X6_pass : Cond.selects RX6 yX6_pass yX6_pass ∈ WL := wl_of (tb_3 (List.mem_of_getElem? (i := 10) rfl)) rfl
theorem kC_X6_pass : Cond.code yX6_pass cX6_pass 3 none ∈ WL := wl_of (tb_3 (List.mem_of_getElem? (i := 11) rfl)) rfl
theorem kM_X6_113 : Cond.methodLink RX6 113 yX6_payDues ∈ WL := wl_of (tb_3 (List.mem_of_getElem? (i := 12) rfl)) rfl
theorem kN_X6_payDues : Cond.instanceMethod yX6_payDues ∈ WL := wl_of (tb_3 (List.mem_of_getElem? (i := 14) rfl)) rfl
theorem kC_X6_payDues : Cond.code yX6_payDues cX6_payDues 2 none ∈ WL := wl_of (tb_3 (List.mem_of_getElem? (i := 15) rfl)) rfl
theorem kM_X6_127 : Cond.methodLink RX6 127 yX6_owes ∈ WL := wl_of (tb_3 (List.mem_of_getElem? (i := 16) rfl)) rfl
theorem kM_X6_129 : Cond.methodLink RX6 129 yX6_pay ∈ WL := wl_of (tb_3 (List.mem_of_getElem? (i := 17) rfl)) rfl
theorem kN_X6_pay : Cond.instanceMethod yX6_pay ∈ WL := wl_of (tb_3 (List.mem_of_getElem? (i := 19) rfl)) rfl
theorem kC_X6_pay : Cond.code yX6_pay cX6_pay 3 none ∈ WL := wl_of (tb_3 (List.mem_of_getElem? (i := 20) rfl)) rfl
theorem kM_X6_116 : Cond.methodLink RX6 116 yX6_lookedAt ∈ WL := wl_of (tb_3 (List.mem_of_getElem? (i := 21) rfl)) rfl
theorem kN_X6_lookedAt : Cond.instanceMethod yX6_lookedAt ∈ WL := wl_of (tb_3 (List.mem_of_getElem? (i := 23) rfl)) rfl
theorem kC_X6_lookedAt : Cond.code yX6_lookedAt cX6_lookedAt 1 (some .int) ∈ WL := wl_of (tb_3 (List.mem_of_getElem? (i := 24) rfl)) rfl
theorem kM_X6_133 : Cond.methodLink RX6 133 yX6_worst ∈ WL := wl_of (tb_3 (List.mem_of_getElem? (i := 25) rfl)) rfl
theorem kN_X6_worst : Cond.instanceMethod yX6_worst ∈ WL := wl_of (tb_3 (List.mem_of_getElem? (i := 27) rfl)) rfl
theorem kC_X6_worst : Cond.code yX6_worst cX6_worst 4 (some .int) ∈ WL := wl_of (tb_3 (List.mem_of_getElem? (i := 28) rfl)) rfl
theorem kM_X6_136 : Cond.methodLink RX6 136 yX6_draw ∈ WL := wl_of (tb_3 (List.mem_of_getElem? (i := 29) rfl)) rfl
theorem kM_X6_120 : Cond.methodLink RX6 120 yX6_persuade ∈ WL := wl_of (tb_3 (List.mem_of_getElem? (i := 30) rfl)) rfl
theorem kN_X6_persuade : Cond.instanceMethod yX6_persuade ∈ WL := wl_of (tb_3 (List.mem_of_getElem? (i := 32) rfl)) rfl
theorem kC_X6_persuade : Cond.code yX6_persuade cX6_persuade 3 none ∈ WL := wl_of (tb_3 (List.mem_of_getElem? (i := 33) rfl)) rfl
theorem kM_X6_139 : Cond.methodLink RX6 139 yX6_offOfAll ∈ WL := wl_of (tb_3 (List.mem_of_getElem? (i := 34) rfl)) rfl
theorem kN_X6_offOfAll : Cond.instanceMethod yX6_offOfAll ∈ WL := wl_of (tb_3 (List.mem_of_getElem? (i := 36) rfl)) rfl
theorem kC_X6_offOfAll : Cond.code yX6_offOfAll cX6_offOfAll 5 (some .int) ∈ WL := wl_of (tb_3 (List.mem_of_getElem? (i := 37) rfl)) rfl
theorem kM_X6_142 : Cond.methodLink RX6 142 yX6_flip ∈ WL := wl_of (tb_3 (List.mem_of_getElem? (i := 38) rfl)) rfl
theorem kM_X6_145 : Cond.methodLink RX6 145 yX6_asks ∈ WL := wl_of (tb_3 (List.mem_of_getElem? (i := 39) rfl)) rfl
theorem kM_X6_124 : Cond.methodLink RX6 124 yX6_haveWhim ∈ WL := wl_of (tb_3 (List.mem_of_getElem? (i := 40) rfl)) rfl
theorem kN_X6_haveWhim : Cond.instanceMethod yX6_haveWhim ∈ WL := wl_of (tb_3 (List.mem_of_getElem? (i := 42) rfl)) rfl
theorem kC_X6_haveWhim : Cond.code yX6_haveWhim cX6_haveWhim 2 none ∈ WL := wl_of (tb_3 (List.mem_of_getElem? (i := 43) rfl)) rfl
theorem kM_L_81 : Cond.methodLink RL 81 yX7_behind ∈ WL := wl_of (tb_3 (List.mem_of_getElem? (i := 44) rfl)) rfl
theorem kN_X7_behind : Cond.instanceMethod yX7_behind ∈ WL := wl_of (tb_3 (List.mem_of_getElem? (i := 45) rfl)) rfl
theorem kV_X7_behind : Cond.selects RX7 yX7_behind yX7_behind ∈ WL := wl_of (tb_3 (List.mem_of_getElem? (i := 46) rfl)) rfl
theorem kC_X7_behind : Cond.code yX7_behind cX7_behind 3 (some .int) ∈ WL := wl_of (tb_3 (List.mem_of_getElem? (i := 47) rfl)) rfl
theorem kM_X7_208 : Cond.methodLink RX7 208 yX6_become ∈ WL := wl_of (tb_3 (List.mem_of_getElem? (i := 48) rfl)) rfl
theorem kN_X6_become : Cond.instanceMethod yX6_become ∈ WL := wl_of (tb_3 (List.mem_of_getElem? (i := 49) rfl)) rfl
theorem kV_X6_become : Cond.selects RX6 yX6_become yX6_become ∈ WL := wl_of (tb_3 (List.mem_of_getElem? (i := 50) rfl)) rfl
theorem kC_X6_become : Cond.code yX6_become cX6_become 2 none ∈ WL := wl_of (tb_3 (List.mem_of_getElem? (i := 51) rfl)) rfl
theorem kM_X6_59 : Cond.methodLink RX6 59 arraycopyName ∈ WL := wl_of (tb_3 (List.mem_of_getElem? (i := 52) rfl)) rfl
theorem kS_copy : Cond.static arraycopyName ∈ WL := wl_of (tb_3 (List.mem_of_getElem? (i := 53) rfl)) rfl
theorem kNat_copy : Cond.native arraycopyName ∈ WL := wl_of (tb_3 (List.mem_of_getElem? (i := 54) rfl)) rfl
theorem kM_L_85 : Cond.methodLink RL 85 yX7_settles ∈ WL := wl_of (tb_3 (List.mem_of_getElem? (i := 55) rfl)) rfl
theorem kN_X7_settles : Cond.instanceMethod yX7_settles ∈ WL := wl_of (tb_3 (List.mem_of_getElem? (i := 56) rfl)) rfl
theorem kV_X7_settles : Cond.selects RX7 yX7_settles yX7_settles ∈ WL := wl_of (tb_3 (List.mem_of_getElem? (i := 57) rfl)) rfl
theorem kC_X7_settles : Cond.code yX7_settles cX7_settles 2 (some .int) ∈ WL := wl_of (tb_3 (List.mem_of_getElem? (i := 58) rfl)) rfl
theorem kM_L_89 : Cond.methodLink RL 89 yX7_won ∈ WL := wl_of (tb_3 (List.mem_of_getElem? (i := 59) rfl)) rfl
theorem kN_X7_won : Cond.instanceMethod yX7_won ∈ WL := wl_of (tb_3 (List.mem_of_getElem? (i := 60) rfl)) rfl
theorem kV_X7_won : Cond.selects RX7 yX7_won yX7_won ∈ WL := wl_of (tb_3 (List.mem_of_getElem? (i := 61) rfl)) rfl
theorem kC_X7_won : Cond.code yX7_won cX7_won 7 (some .int) ∈ WL := wl_of (tb_3 (List.mem_of_getElem? (i := 62) rfl)) rfl
theorem kM_L_93 : Cond.methodLink RL 93 yX7_lied ∈ WL := wl_of (tb_3 (List.mem_of_getElem? (i := 63) rfl)) rfl
theorem kN_X7_lied : Cond.instanceMethod yX7_lied ∈ WL := wl_of (tb_3 (List.mem_of_getElem? (i := 64) rfl)) rfl
theorem kV_X7_lied : Cond.selects RX7 yX7_lied yX7_lied ∈ WL := wl_of (tb_3 (List.mem_of_getElem? (i := 65) rfl)) rfl
theorem kC_X7_lied : Cond.code yX7_lied cX7_lied 7 (some .int) ∈ WL := wl_of (tb_3 (List.mem_of_getElem? (i := 66) rfl)) rfl
theorem kM_X7_211 : Cond.methodLink RX7 211 yX7_isNoSheet ∈ WL := wl_of (tb_3 (List.mem_of_getElem? (i := 67) rfl)) rfl
theorem kS_X7_isNoSheet : Cond.static yX7_isNoSheet ∈ WL := wl_of (tb_3 (List.mem_of_getElem? (i := 68) rfl)) rfl
theorem kC_X7_isNoSheet : Cond.code yX7_isNoSheet cX7_isNoSheet 1 (some .boolean) ∈ WL := wl_of (tb_3 (List.mem_of_getElem? (i := 69) rfl)) rfl
theorem kM_X7_214 : Cond.methodLink RX7 214 yX4_isMissing ∈ WL := wl_of (tb_3 (List.mem_of_getElem? (i := 70) rfl)) rfl
theorem kN_X4_isMissing : Cond.instanceMethod yX4_isMissing ∈ WL := wl_of (tb_3 (List.mem_of_getElem? (i := 71) rfl)) rfl
theorem kV_X4_isMissing : Cond.selects RX4 yX4_isMissing yX4_isMissing ∈ WL := wl_of (tb_3 (List.mem_of_getElem? (i := 72) rfl)) rfl
theorem kC_X4_isMissing : Cond.code yX4_isMissing cX4_isMissing 1 (some .boolean) ∈ WL := wl_of (tb_3 (List.mem_of_getElem? (i := 73) rfl)) rfl
theorem kK_X7_218 : Cond.constant RX7 218 (-1000000011) ∈ WL := wl_of (tb_3 (List.mem_of_getElem? (i := 74) rfl)) rfl
theorem kM_X7_219 : Cond.methodLink RX7 219 yX7_differences ∈ WL := wl_of (tb_3 (List.mem_of_getElem? (i := 75) rfl)) rfl
theorem kN_X7_differences : Cond.instanceMethod yX7_differences ∈ WL := wl_of (tb_3 (List.mem_of_getElem? (i := 77) rfl)) rfl
theorem kC_X7_differences : Cond.code yX7_differences cX7_differences 6 (some .int) ∈ WL := wl_of (tb_3 (List.mem_of_getElem? (i := 78) rfl)) rfl
theorem kM_X7_224 : Cond.methodLink RX7 224 yX4_isNumber ∈ WL := wl_of (tb_3 (List.mem_of_getElem? (i := 79) rfl)) rfl
theorem kN_X4_isNumber : Cond.instanceMethod yX4_isNumber ∈ WL := wl_of (tb_3 (List.mem_of_getElem? (i := 80) rfl)) rfl
theorem kV_X4_isNumber : Cond.selects RX4 yX4_isNumber yX4_isNumber ∈ WL := wl_of (tb_3 (List.mem_of_getElem? (i := 81) rfl)) rfl
theorem kC_X4_isNumber : Cond.code yX4_isNumber cX4_isNumber 2 (some .boolean) ∈ WL := wl_of (tb_3 (List.mem_of_getElem? (i := 82) rfl)) rfl
theorem kM_X4_28 : Cond.methodLink RX4 28 yX4_hasNo ∈ WL := wl_of (tb_3 (List.mem_of_getElem? (i := 83) rfl)) rfl
theorem kN_X4_hasNo : Cond.instanceMethod yX4_hasNo ∈ WL := wl_of (tb_3 (List.mem_of_getElem? (i := 84) rfl)) rfl
theorem kV_X4_hasNo : Cond.selects RX4 yX4_hasNo yX4_hasNo ∈ WL := wl_of (tb_3 (List.mem_of_getElem? (i := 85) rfl)) rfl
theorem kC_X4_hasNo : Cond.code yX4_hasNo cX4_hasNo 2 (some .boolean) ∈ WL := wl_of (tb_3 (List.mem_of_getElem? (i := 86) rfl)) rfl
theorem kK_X4_32 : Cond.constant RX4 32 (-1000000005) ∈ WL := wl_of (tb_3 (List.mem_of_getElem? (i := 87) rfl)) rfl
theorem kM_X7_227 : Cond.methodLink RX7 227 yX6_off ∈ WL := wl_of (tb_3 (List.mem_of_getElem? (i := 88) rfl)) rfl
theorem kM_X7_233 : Cond.methodLink RX7 233 Lib.Math.abs.name ∈ WL := wl_of (tb_3 (List.mem_of_getElem? (i := 89) rfl)) rfl
theorem kM_L_97 : Cond.methodLink RL 97 yX7_fee ∈ WL := wl_of (tb_3 (List.mem_of_getElem? (i := 90) rfl)) rfl
theorem kN_X7_fee : Cond.instanceMethod yX7_fee ∈ WL := wl_of (tb_3 (List.mem_of_getElem? (i := 91) rfl)) rfl
theorem kV_X7_fee : Cond.selects RX7 yX7_fee yX7_fee ∈ WL := wl_of (tb_3 (List.mem_of_getElem? (i := 92) rfl)) rfl
theorem kC_X7_fee : Cond.code yX7_fee cX7_fee 2 (some .int) ∈ WL := wl_of (tb_3 (List.mem_of_getElem? (i := 93) rfl)) rfl
theorem kM_X7_239 : Cond.methodLink RX7 239 yX0_counts ∈ WL := wl_of (tb_3 (List.mem_of_getElem? (i := 94) rfl)) rfl
theorem kM_X7_242 : Cond.methodLink RX7 242 yX0_gives ∈ WL := wl_of (tb_3 (List.mem_of_getElem? (i := 95) rfl)) rfl
theorem kM_L_101 : Cond.methodLink RL 101 yX7_fine ∈ WL := wl_of (tb_3 (List.mem_of_getElem? (i := 96) rfl)) rfl
theorem kN_X7_fine : Cond.instanceMethod yX7_fine ∈ WL := wl_of (tb_3 (List.mem_of_getElem? (i := 97) rfl)) rfl
theorem kV_X7_fine : Cond.selects RX7 yX7_fine yX7_fine ∈ WL := wl_of (tb_3 (List.mem_of_getElem? (i := 98) rfl)) rfl
theorem kC_X7_fine : Cond.code yX7_fine cX7_fine 4 (some .int) ∈ WL := wl_of (tb_3 (List.mem_of_getElem? (i := 99) rfl)) rfl
theorem kM_L_105 : Cond.methodLink RL 105 yX7_feed ∈ WL := wl_of (tb_3 (List.mem_of_getElem? (i := 100) rfl)) rfl
theorem kN_X7_feed : Cond.instanceMethod yX7_feed ∈ WL := wl_of (tb_3 (List.mem_of_getElem? (i := 101) rfl)) rfl
theorem kV_X7_feed : Cond.selects RX7 yX7_feed yX7_feed ∈ WL := wl_of (tb_3 (List.mem_of_getElem? (i := 102) rfl)) rfl
theorem kC_X7_feed : Cond.code yX7_feed cX7_feed 4 (some .int) ∈ WL := wl_of (tb_3 (List.mem_of_getElem? (i := 103) rfl)) rfl
theorem kM_X7_249 : Cond.methodLink RX7 249 yX3_append ∈ WL := wl_of (tb_3 (List.mem_of_getElem? (i := 104) rfl)) rfl
theorem kN_X3_append : Cond.instanceMethod yX3_append ∈ WL := wl_of (tb_3 (List.mem_of_getElem? (i := 105) rfl)) rfl
theorem kV_X3_append : Cond.selects RX3 yX3_append yX3_append ∈ WL := wl_of (tb_3 (List.mem_of_getElem? (i := 106) rfl)) rfl
theorem kC_X3_append : Cond.code yX3_append cX3_append 3 none ∈ WL := wl_of (tb_3 (List.mem_of_getElem? (i := 107) rfl)) rfl
theorem kM_L_109 : Cond.methodLink RL 109 yX7_trim ∈ WL := wl_of (tb_3 (List.mem_of_getElem? (i := 108) rfl)) rfl
theorem kN_X7_trim : Cond.instanceMethod yX7_trim ∈ WL := wl_of (tb_3 (List.mem_of_getElem? (i := 109) rfl)) rfl
theorem kV_X7_trim : Cond.selects RX7 yX7_trim yX7_trim ∈ WL := wl_of (tb_3 (List.mem_of_getElem? (i := 110) rfl)) rfl
theorem kC_X7_trim : Cond.code yX7_trim cX7_trim 2 (some .int) ∈ WL := wl_of (tb_3 (List.mem_of_getElem? (i := 111) rfl)) rfl
theorem kM_L_113 : Cond.methodLink RL 113 yX7_text ∈ WL := wl_of (tb_3 (List.mem_of_getElem? (i := 112) rfl)) rfl
theorem kN_X7_text : Cond.instanceMethod yX7_text ∈ WL := wl_of (tb_3 (List.mem_of_getElem? (i := 113) rfl)) rfl
theorem kV_X7_text : Cond.selects RX7 yX7_text yX7_text ∈ WL := wl_of (tb_3 (List.mem_of_getElem? (i := 114) rfl)) rfl
theorem kC_X7_text : Cond.code yX7_text cX7_text 3 (some .int) ∈ WL := wl_of (tb_3 (List.mem_of_getElem? (i := 115) rfl)) rfl
theorem kM_X7_252 : Cond.methodLink RX7 252 yX3_read ∈ WL := wl_of (tb_3 (List.mem_of_getElem? (i := 116) rfl)) rfl
theorem kN_X3_read : Cond.instanceMethod yX3_read ∈ WL := wl_of (tb_3 (List.mem_of_getElem? (i := 117) rfl)) rfl
theorem kV_X3_read : Cond.selects RX3 yX3_read yX3_read ∈ WL := wl_of (tb_3 (List.mem_of_getElem? (i := 118) rfl)) rfl
theorem kC_X3_read : Cond.code yX3_read cX3_read 1 (some .boolean) ∈ WL := wl_of (tb_3 (List.mem_of_getElem? (i := 119) rfl)) rfl
theorem kM_X3_41 : Cond.methodLink RX3 41 yX3_next ∈ WL := wl_of (tb_3 (List.mem_of_getElem? (i := 120) rfl)) rfl
theorem kN_X3_next : Cond.instanceMethod yX3_next ∈ WL := wl_of (tb_3 (List.mem_of_getElem? (i := 122) rfl)) rfl
theorem kC_X3_next : Cond.code yX3_next cX3_next 4 none ∈ WL := wl_of (tb_3 (List.mem_of_getElem? (i := 123) rfl)) rfl
theorem kM_X3_52 : Cond.methodLink RX3 52 yX3_sortAt ∈ WL := wl_of (tb_3 (List.mem_of_getElem? (i := 124) rfl)) rfl
theorem kN_X3_sortAt : Cond.instanceMethod yX3_sortAt ∈ WL := wl_of (tb_3 (List.mem_of_getElem? (i := 126) rfl)) rfl
theorem kC_X3_sortAt : Cond.code yX3_sortAt cX3_sortAt 3 (some .int) ∈ WL := wl_of (tb_3 (List.mem_of_getElem? (i := 127) rfl)) rfl
theorem kM_X3_44 : Cond.methodLink RX3 44 yX3_keyHere ∈ WL := wl_of (tb_3 (List.mem_of_getElem? (i := 128) rfl)) rfl
theorem kN_X3_keyHere : Cond.instanceMethod yX3_keyHere ∈ WL := wl_of (tb_3 (List.mem_of_getElem? (i := 130) rfl)) rfl
theorem kC_X3_keyHere : Cond.code yX3_keyHere cX3_keyHere 1 (some .int) ∈ WL := wl_of (tb_3 (List.mem_of_getElem? (i := 131) rfl)) rfl
theorem kM_X3_58 : Cond.methodLink RX3 58 yX3_isHere ∈ WL := wl_of (tb_3 (List.mem_of_getElem? (i := 133) rfl)) rfl
theorem kN_X3_isHere : Cond.instanceMethod yX3_isHere ∈ WL := wl_of (tb_3 (List.mem_of_getElem? (i := 135) rfl)) rfl
theorem kC_X3_isHere : Cond.code yX3_isHere cX3_isHere 3 (some .boolean) ∈ WL := wl_of (tb_3 (List.mem_of_getElem? (i := 136) rfl)) rfl
theorem kM_X3_66 : Cond.methodLink RX3 66 yJ0_length_8abf5 ∈ WL := wl_of (tb_3 (List.mem_of_getElem? (i := 137) rfl)) rfl
theorem kN_J0_length_8abf5 : Cond.instanceMethod yJ0_length_8abf5 ∈ WL := wl_of (tb_3 (List.mem_of_getElem? (i := 138) rfl)) rfl
theorem kV_J0_length_8abf5 : Cond.selects RJ0 yJ0_length_8abf5 yJ0_length_8abf5 ∈ WL := wl_of (tb_3 (List.mem_of_getElem? (i := 139) rfl)) rfl
theorem kC_J0_length_8abf5 : Cond.code yJ0_length_8abf5 cJ0_length_8abf5 1 (some .int) ∈ WL := wl_of (tb_3 (List.mem_of_getElem? (i := 140) rfl)) rfl
theorem kM_J0_335 : Cond.methodLink RJ0 335 yJ0_coder_7d493 ∈ WL := wl_of (tb_3 (List.mem_of_getElem? (i := 141) rfl)) rfl
theorem kN_J0_coder_7d493 : Cond.instanceMethod yJ0_coder_7d493 ∈ WL := wl_of (tb_3 (List.mem_of_getElem? (i := 142) rfl)) rfl
theorem kV_J0_coder_7d493 : Cond.selects RJ0 yJ0_coder_7d493 yJ0_coder_7d493 ∈ WL := wl_of (tb_3 (List.mem_of_getElem? (i := 143) rfl)) rfl
theorem kC_J0_coder_7d493 : Cond.code yJ0_coder_7d493 cJ0_coder_7d493 1 (some .byte) ∈ WL := wl_of (tb_3 (List.mem_of_getElem? (i := 144) rfl)) rfl
theorem kF_J0_38 : Cond.fieldLink RJ0 38 "java/lang/String" "COMPACT_STRINGS" "Z" ∈ WL := wl_of (tb_3 (List.mem_of_getElem? (i := 145) rfl)) rfl
theorem kYS_J0_COMPACT_STRINGS : Cond.laysStatic RJ0 "COMPACT_STRINGS" "Z" ∈ lw_tbl := tb_3 (List.mem_of_getElem? (i := 146) rfl)
theorem kM_X3_70 : Cond.methodLink RX3 70 yJ0_charAt_5068e ∈ WL := wl_of (tb_3 (List.mem_of_getElem? (i := 147) rfl)) rfl
theorem kN_J0_charAt_5068e : Cond.instanceMethod yJ0_charAt_5068e ∈ WL := wl_of (tb_3 (List.mem_of_getElem? (i := 148) rfl)) rfl
theorem kV_J0_charAt_5068e : Cond.selects RJ0 yJ0_charAt_5068e yJ0_charAt_5068e ∈ WL := wl_of (tb_3 (List.mem_of_getElem? (i := 149) rfl)) rfl
theorem kC_J0_charAt_5068e : Cond.code yJ0_charAt_5068e cJ0_charAt_5068e 2 (some .char) ∈ WL := wl_of (tb_3 (List.mem_of_getElem? (i := 150) rfl)) rfl
theorem kM_J0_492 : Cond.methodLink RJ0 492 yJ0_isLatin1_aae02 ∈ WL := wl_of (tb_3 (List.mem_of_getElem? (i := 151) rfl)) rfl
theorem kN_J0_isLatin1_aae02 : Cond.instanceMethod yJ0_isLatin1_aae02 ∈ WL := wl_of (tb_3 (List.mem_of_getElem? (i := 152) rfl)) rfl
theorem kV_J0_isLatin1_aae02 : Cond.selects RJ0 yJ0_isLatin1_aae02 yJ0_isLatin1_aae02 ∈ WL := wl_of (tb_3 (List.mem_of_getElem? (i := 153) rfl)) rfl
theorem kC_J0_isLatin1_aae02 : Cond.code yJ0_isLatin1_aae02 cJ0_isLatin1_aae02 1 (some .boolean) ∈ WL := wl_of (tb_3 (List.mem_of_getElem? (i := 154) rfl)) rfl
theorem kM_J0_495 : Cond.methodLink RJ0 495 yJ1_charAt_3b067 ∈ WL := wl_of (tb_3 (List.mem_of_getElem? (i := 155) rfl)) rfl
theorem kS_J1_charAt_3b067 : Cond.static yJ1_charAt_3b067 ∈ WL := wl_of (tb_3 (List.mem_of_getElem? (i := 156) rfl)) rfl
theorem kC_J1_charAt_3b067 : Cond.code yJ1_charAt_3b067 cJ1_charAt_3b067 2 (some .char) ∈ WL := wl_of (tb_3 (List.mem_of_getElem? (i := 157) rfl)) rfl
theorem kM_J1_9 : Cond.methodLink RJ1 9 yJ0_checkIndex_df160 ∈ WL := wl_of (tb_3 (List.mem_of_getElem? (i := 158) rfl)) rfl
theorem kS_J0_checkIndex_df160 : Cond.static yJ0_checkIndex_df160 ∈ WL := wl_of (tb_3 (List.mem_of_getElem? (i := 159) rfl)) rfl
theorem kC_J0_checkIndex_df160 : Cond.code yJ0_checkIndex_df160 cJ0_checkIndex_df160 2 none ∈ WL := wl_of (tb_3 (List.mem_of_getElem? (i := 160) rfl)) rfl
theorem kF_J0_1053 : Cond.fieldLink RJ0 1053 "jdk/internal/util/Preconditions" "SIOOBE_FORMATTER" "Ljava/util/function/BiFunction;" ∈ WL := wl_of (tb_3 (List.mem_of_getElem? (i := 161) rfl)) rfl
theorem kYS_J3_SIOOBE_FORMATTER : Cond.laysStatic RJ3 "SIOOBE_FORMATTER" "Ljava/util/function/BiFunction;" ∈ lw_tbl := tb_3 (List.mem_of_getElem? (i := 162) rfl)
theorem kM_J0_1059 : Cond.methodLink RJ0 1059 yJ3_checkIndex_8e157 ∈ WL := wl_of (tb_3 (List.mem_of_getElem? (i := 163) rfl)) rfl
theorem kS_J3_checkIndex_8e157 : Cond.static yJ3_checkIndex_8e157 ∈ WL := wl_of (tb_3 (List.mem_of_getElem? (i := 164) rfl)) rfl
theorem kC_J3_checkIndex_8e157 : Cond.code yJ3_checkIndex_8e157 cJ3_checkIndex_8e157 3 (some .int) ∈ WL := wl_of (tb_3 (List.mem_of_getElem? (i := 165) rfl)) rfl
theorem kM_J0_498 : Cond.methodLink RJ0 498 yJ2_charAt_3b067 ∈ WL := wl_of (tb_3 (List.mem_of_getElem? (i := 166) rfl)) rfl
theorem kS_J2_charAt_3b067 : Cond.static yJ2_charAt_3b067 ∈ WL := wl_of (tb_3 (List.mem_of_getElem? (i := 167) rfl)) rfl
theorem kC_J2_charAt_3b067 : Cond.code yJ2_charAt_3b067 cJ2_charAt_3b067 2 (some .char) ∈ WL := wl_of (tb_3 (List.mem_of_getElem? (i := 168) rfl)) rfl
theorem kM_J2_67 : Cond.methodLink RJ2 67 yJ2_checkIndex_2214a ∈ WL := wl_of (tb_3 (List.mem_of_getElem? (i := 169) rfl)) rfl
theorem kS_J2_checkIndex_2214a : Cond.static yJ2_checkIndex_2214a ∈ WL := wl_of (tb_3 (List.mem_of_getElem? (i := 170) rfl)) rfl
theorem kC_J2_checkIndex_2214a : Cond.code yJ2_checkIndex_2214a cJ2_checkIndex_2214a 2 none ∈ WL := wl_of (tb_3 (List.mem_of_getElem? (i := 171) rfl)) rfl
theorem kM_J2_48 : Cond.methodLink RJ2 48 yJ2_length_9d52b ∈ WL := wl_of (tb_3 (List.mem_of_getElem? (i := 172) rfl)) rfl
theorem kS_J2_length_9d52b : Cond.static yJ2_length_9d52b ∈ WL := wl_of (tb_3 (List.mem_of_getElem? (i := 173) rfl)) rfl
theorem kC_J2_length_9d52b : Cond.code yJ2_length_9d52b cJ2_length_9d52b 1 (some .int) ∈ WL := wl_of (tb_3 (List.mem_of_getElem? (i := 174) rfl)) rfl
theorem kM_J2_414 : Cond.methodLink RJ2 414 yJ0_checkIndex_df160 ∈ WL := wl_of (tb_3 (List.mem_of_getElem? (i := 175) rfl)) rfl
theorem kM_J2_71 : Cond.methodLink RJ2 71 yJ2_getChar_3b067 ∈ WL := wl_of (tb_3 (List.mem_of_getElem? (i := 176) rfl)) rfl
theorem kS_J2_getChar_3b067 : Cond.static yJ2_getChar_3b067 ∈ WL := wl_of (tb_3 (List.mem_of_getElem? (i := 177) rfl)) rfl
theorem kC_J2_getChar_3b067 : Cond.code yJ2_getChar_3b067 cJ2_getChar_3b067 2 (some .char) ∈ WL := wl_of (tb_3 (List.mem_of_getElem? (i := 178) rfl)) rfl
theorem kF_J2_44 : Cond.fieldLink RJ2 44 "java/lang/StringUTF16" "$assertionsDisabled" "Z" ∈ WL := wl_of (tb_3 (List.mem_of_getElem? (i := 179) rfl)) rfl
theorem kYS_J2__assertionsDisabled : Cond.laysStatic RJ2 "$assertionsDisabled" "Z" ∈ lw_tbl := tb_3 (List.mem_of_getElem? (i := 180) rfl)
theorem kF_J2_59 : Cond.fieldLink RJ2 59 "java/lang/StringUTF16" "HI_BYTE_SHIFT" "I" ∈ WL := wl_of (tb_3 (List.mem_of_getElem? (i := 181) rfl)) rfl
theorem kYS_J2_HI_BYTE_SHIFT : Cond.laysStatic RJ2 "HI_BYTE_SHIFT" "I" ∈ lw_tbl := tb_3 (List.mem_of_getElem? (i := 182) rfl)
theorem kF_J2_63 : Cond.fieldLink RJ2 63 "java/lang/StringUTF16" "LO_BYTE_SHIFT" "I" ∈ WL := wl_of (tb_3 (List.mem_of_getElem? (i := 183) rfl)) rfl
theorem kYS_J2_LO_BYTE_SHIFT : Cond.laysStatic RJ2 "LO_BYTE_SHIFT" "I" ∈ lw_tbl := tb_3 (List.mem_of_getElem? (i := 184) rfl)
theorem kM_X3_48 : Cond.methodLink RX3 48 yX3_level ∈ WL := wl_of (tb_3 (List.mem_of_getElem? (i := 187) rfl)) rfl
theorem kN_X3_level : Cond.instanceMethod yX3_level ∈ WL := wl_of (tb_3 (List.mem_of_getElem? (i := 189) rfl)) rfl
theorem kC_X3_level : Cond.code yX3_level cX3_level 6 (some .boolean) ∈ WL := wl_of (tb_3 (List.mem_of_getElem? (i := 190) rfl)) rfl
theorem kM_X3_91 : Cond.methodLink RX3 91 yX3_piece ∈ WL := wl_of (tb_3 (List.mem_of_getElem? (i := 191) rfl)) rfl
theorem kN_X3_piece : Cond.instanceMethod yX3_piece ∈ WL := wl_of (tb_3 (List.mem_of_getElem? (i := 193) rfl)) rfl
theorem kC_X3_piece : Cond.code yX3_piece cX3_piece 3 (some .boolean) ∈ WL := wl_of (tb_3 (List.mem_of_getElem? (i := 194) rfl)) rfl
theorem kM_X3_103 : Cond.methodLink RX3 103 yX3_negated ∈ WL := wl_of (tb_3 (List.mem_of_getElem? (i := 195) rfl)) rfl
theorem kN_X3_negated : Cond.instanceMethod yX3_negated ∈ WL := wl_of (tb_3 (List.mem_of_getElem? (i := 197) rfl)) rfl
theorem kC_X3_negated : Cond.code yX3_negated cX3_negated 3 (some .boolean) ∈ WL := wl_of (tb_3 (List.mem_of_getElem? (i := 198) rfl)) rfl
theorem kM_X3_99 : Cond.methodLink RX3 99 yX3_put ∈ WL := wl_of (tb_3 (List.mem_of_getElem? (i := 199) rfl)) rfl
theorem kN_X3_put : Cond.instanceMethod yX3_put ∈ WL := wl_of (tb_3 (List.mem_of_getElem? (i := 201) rfl)) rfl
theorem kC_X3_put : Cond.code yX3_put cX3_put 2 none ∈ WL := wl_of (tb_3 (List.mem_of_getElem? (i := 202) rfl)) rfl
theorem kM_X3_106 : Cond.methodLink RX3 106 yX3_enclosed ∈ WL := wl_of (tb_3 (List.mem_of_getElem? (i := 203) rfl)) rfl
theorem kN_X3_enclosed : Cond.instanceMethod yX3_enclosed ∈ WL := wl_of (tb_3 (List.mem_of_getElem? (i := 205) rfl)) rfl
theorem kC_X3_enclosed : Cond.code yX3_enclosed cX3_enclosed 3 (some .boolean) ∈ WL := wl_of (tb_3 (List.mem_of_getElem? (i := 206) rfl)) rfl
theorem kM_X3_109 : Cond.methodLink RX3 109 yX3_number ∈ WL := wl_of (tb_3 (List.mem_of_getElem? (i := 207) rfl)) rfl
theorem kN_X3_number : Cond.instanceMethod yX3_number ∈ WL := wl_of (tb_3 (List.mem_of_getElem? (i := 209) rfl)) rfl
theorem kC_X3_number : Cond.code yX3_number cX3_number 3 (some .boolean) ∈ WL := wl_of (tb_3 (List.mem_of_getElem? (i := 210) rfl)) rfl
theorem kM_X3_113 : Cond.methodLink RX3 113 yX3_name ∈ WL := wl_of (tb_3 (List.mem_of_getElem? (i := 211) rfl)) rfl
theorem kN_X3_name : Cond.instanceMethod yX3_name ∈ WL := wl_of (tb_3 (List.mem_of_getElem? (i := 213) rfl)) rfl
theorem kC_X3_name : Cond.code yX3_name cX3_name 3 (some .boolean) ∈ WL := wl_of (tb_3 (List.mem_of_getElem? (i := 214) rfl)) rfl
theorem kM_X3_78 : Cond.methodLink RX3 78 yJ0_indexOf_0f7a4 ∈ WL := wl_of (tb_3 (List.mem_of_getElem? (i := 218) rfl)) rfl
theorem kN_J0_indexOf_0f7a4 : Cond.instanceMethod yJ0_indexOf_0f7a4 ∈ WL := wl_of (tb_3 (List.mem_of_getElem? (i := 219) rfl)) rfl
theorem kV_J0_indexOf_0f7a4 : Cond.selects RJ0 yJ0_indexOf_0f7a4 yJ0_indexOf_0f7a4 ∈ WL := wl_of (tb_3 (List.mem_of_getElem? (i := 220) rfl)) rfl
theorem kC_J0_indexOf_0f7a4 : Cond.code yJ0_indexOf_0f7a4 cJ0_indexOf_0f7a4 2 (some .int) ∈ WL := wl_of (tb_3 (List.mem_of_getElem? (i := 221) rfl)) rfl
theorem kM_J0_633 : Cond.methodLink RJ0 633 yJ0_indexOf_7cf53 ∈ WL := wl_of (tb_3 (List.mem_of_getElem? (i := 222) rfl)) rfl
theorem kN_J0_indexOf_7cf53 : Cond.instanceMethod yJ0_indexOf_7cf53 ∈ WL := wl_of (tb_3 (List.mem_of_getElem? (i := 223) rfl)) rfl
theorem kV_J0_indexOf_7cf53 : Cond.selects RJ0 yJ0_indexOf_7cf53 yJ0_indexOf_7cf53 ∈ WL := wl_of (tb_3 (List.mem_of_getElem? (i := 224) rfl)) rfl
theorem kC_J0_indexOf_7cf53 : Cond.code yJ0_indexOf_7cf53 cJ0_indexOf_7cf53 3 (some .int) ∈ WL := wl_of (tb_3 (List.mem_of_getElem? (i := 225) rfl)) rfl
theorem kM_J0_505 : Cond.methodLink RJ0 505 yJ0_length_8abf5 ∈ WL := wl_of (tb_3 (List.mem_of_getElem? (i := 226) rfl)) rfl
theorem kM_J0_637 : Cond.methodLink RJ0 637 yJ1_indexOf_4cfef ∈ WL := wl_of (tb_3 (List.mem_of_getElem? (i := 227) rfl)) rfl
theorem kS_J1_indexOf_4cfef : Cond.static yJ1_indexOf_4cfef ∈ WL := wl_of (tb_3 (List.mem_of_getElem? (i := 228) rfl)) rfl
theorem kC_J1_indexOf_4cfef : Cond.code yJ1_indexOf_4cfef cJ1_indexOf_4cfef 4 (some .int) ∈ WL := wl_of (tb_3 (List.mem_of_getElem? (i := 229) rfl)) rfl
theorem kM_J1_88 : Cond.methodLink RJ1 88 yJ1_canEncode_9a6ad ∈ WL := wl_of (tb_3 (List.mem_of_getElem? (i := 230) rfl)) rfl
theorem kS_J1_canEncode_9a6ad : Cond.static yJ1_canEncode_9a6ad ∈ WL := wl_of (tb_3 (List.mem_of_getElem? (i := 231) rfl)) rfl
theorem kC_J1_canEncode_9a6ad : Cond.code yJ1_canEncode_9a6ad cJ1_canEncode_9a6ad 1 (some .boolean) ∈ WL := wl_of (tb_3 (List.mem_of_getElem? (i := 232) rfl)) rfl
theorem kM_J1_92 : Cond.methodLink RJ1 92 Lib.Math.max.name ∈ WL := wl_of (tb_3 (List.mem_of_getElem? (i := 233) rfl)) rfl
theorem kM_J1_38 : Cond.methodLink RJ1 38 Lib.Math.min.name ∈ WL := wl_of (tb_3 (List.mem_of_getElem? (i := 234) rfl)) rfl
theorem kM_J1_95 : Cond.methodLink RJ1 95 yJ1_indexOfChar_4cfef ∈ WL := wl_of (tb_3 (List.mem_of_getElem? (i := 235) rfl)) rfl
theorem kS_J1_indexOfChar_4cfef : Cond.static yJ1_indexOfChar_4cfef ∈ WL := wl_of (tb_3 (List.mem_of_getElem? (i := 236) rfl)) rfl
theorem kC_J1_indexOfChar_4cfef : Cond.code yJ1_indexOfChar_4cfef cJ1_indexOfChar_4cfef 6 (some .int) ∈ WL := wl_of (tb_3 (List.mem_of_getElem? (i := 237) rfl)) rfl
theorem kM_J0_640 : Cond.methodLink RJ0 640 yJ2_indexOf_4cfef ∈ WL := wl_of (tb_3 (List.mem_of_getElem? (i := 238) rfl)) rfl
theorem kS_J2_indexOf_4cfef : Cond.static yJ2_indexOf_4cfef ∈ WL := wl_of (tb_3 (List.mem_of_getElem? (i := 239) rfl)) rfl
theorem kC_J2_indexOf_4cfef : Cond.code yJ2_indexOf_4cfef cJ2_indexOf_4cfef 4 (some .int) ∈ WL := wl_of (tb_4 (List.mem_of_getElem? (i := 0) rfl)) rfl
theorem kM_J2_224 : Cond.methodLink RJ2 224 Lib.Math.max.name ∈ WL := wl_of (tb_4 (List.mem_of_getElem? (i := 1) rfl)) rfl
theorem kM_J2_183 : Cond.methodLink RJ2 183 Lib.Math.min.name ∈ WL := wl_of (tb_4 (List.mem_of_getElem? (i := 2) rfl)) rfl
theorem kK_J2_227 : Cond.constant RJ2 227 (65536) ∈ WL := wl_of (tb_4 (List.mem_of_getElem? (i := 3) rfl)) rfl
theorem kM_J2_228 : Cond.methodLink RJ2 228 yJ2_indexOfChar_4cfef ∈ WL := wl_of (tb_4 (List.mem_of_getElem? (i := 4) rfl)) rfl
theorem kS_J2_indexOfChar_4cfef : Cond.static yJ2_indexOfChar_4cfef ∈ WL := wl_of (tb_4 (List.mem_of_getElem? (i := 5) rfl)) rfl
theorem kC_J2_indexOfChar_4cfef : Cond.code yJ2_indexOfChar_4cfef cJ2_indexOfChar_4cfef 4 (some .int) ∈ WL := wl_of (tb_4 (List.mem_of_getElem? (i := 6) rfl)) rfl
theorem kM_J2_96 : Cond.methodLink RJ2 96 yJ2_checkBoundsBeginEnd_d044e ∈ WL := wl_of (tb_4 (List.mem_of_getElem? (i := 7) rfl)) rfl
theorem kS_J2_checkBoundsBeginEnd_d044e : Cond.static yJ2_checkBoundsBeginEnd_d044e ∈ WL := wl_of (tb_4 (List.mem_of_getElem? (i := 8) rfl)) rfl
theorem kC_J2_checkBoundsBeginEnd_d044e : Cond.code yJ2_checkBoundsBeginEnd_d044e cJ2_checkBoundsBeginEnd_d044e 3 none ∈ WL := wl_of (tb_4 (List.mem_of_getElem? (i := 9) rfl)) rfl
theorem kM_J2_241 : Cond.methodLink RJ2 241 yJ0_checkBoundsBeginEnd_23922 ∈ WL := wl_of (tb_4 (List.mem_of_getElem? (i := 10) rfl)) rfl
theorem kS_J0_checkBoundsBeginEnd_23922 : Cond.static yJ0_checkBoundsBeginEnd_23922 ∈ WL := wl_of (tb_4 (List.mem_of_getElem? (i := 11) rfl)) rfl
theorem kC_J0_checkBoundsBeginEnd_23922 : Cond.code yJ0_checkBoundsBeginEnd_23922 cJ0_checkBoundsBeginEnd_23922 3 none ∈ WL := wl_of (tb_4 (List.mem_of_getElem? (i := 12) rfl)) rfl
theorem kM_J0_1062 : Cond.methodLink RJ0 1062 yJ3_checkFromToIndex_8c36e ∈ WL := wl_of (tb_4 (List.mem_of_getElem? (i := 13) rfl)) rfl
theorem kS_J3_checkFromToIndex_8c36e : Cond.static yJ3_checkFromToIndex_8c36e ∈ WL := wl_of (tb_4 (List.mem_of_getElem? (i := 14) rfl)) rfl
theorem kC_J3_checkFromToIndex_8c36e : Cond.code yJ3_checkFromToIndex_8c36e cJ3_checkFromToIndex_8c36e 4 (some .int) ∈ WL := wl_of (tb_4 (List.mem_of_getElem? (i := 15) rfl)) rfl
theorem kM_J2_244 : Cond.methodLink RJ2 244 yJ2_indexOfCharUnsafe_4cfef ∈ WL := wl_of (tb_4 (List.mem_of_getElem? (i := 16) rfl)) rfl
theorem kS_J2_indexOfCharUnsafe_4cfef : Cond.static yJ2_indexOfCharUnsafe_4cfef ∈ WL := wl_of (tb_4 (List.mem_of_getElem? (i := 17) rfl)) rfl
theorem kC_J2_indexOfCharUnsafe_4cfef : Cond.code yJ2_indexOfCharUnsafe_4cfef cJ2_indexOfCharUnsafe_4cfef 5 (some .int) ∈ WL := wl_of (tb_4 (List.mem_of_getElem? (i := 18) rfl)) rfl
theorem kM_J2_232 : Cond.methodLink RJ2 232 yJ2_indexOfSupplementary_4cfef ∈ WL := wl_of (tb_4 (List.mem_of_getElem? (i := 19) rfl)) rfl
theorem kS_J2_indexOfSupplementary_4cfef : Cond.static yJ2_indexOfSupplementary_4cfef ∈ WL := wl_of (tb_4 (List.mem_of_getElem? (i := 20) rfl)) rfl
theorem kC_J2_indexOfSupplementary_4cfef : Cond.code yJ2_indexOfSupplementary_4cfef cJ2_indexOfSupplementary_4cfef 7 (some .int) ∈ WL := wl_of (tb_4 (List.mem_of_getElem? (i := 21) rfl)) rfl
theorem kM_J2_164 : Cond.methodLink RJ2 164 yJ11_isValidCodePoint_9a6ad ∈ WL := wl_of (tb_4 (List.mem_of_getElem? (i := 22) rfl)) rfl
theorem kS_J11_isValidCodePoint_9a6ad : Cond.static yJ11_isValidCodePoint_9a6ad ∈ WL := wl_of (tb_4 (List.mem_of_getElem? (i := 23) rfl)) rfl
theorem kC_J11_isValidCodePoint_9a6ad : Cond.code yJ11_isValidCodePoint_9a6ad cJ11_isValidCodePoint_9a6ad 2 (some .boolean) ∈ WL := wl_of (tb_4 (List.mem_of_getElem? (i := 24) rfl)) rfl
theorem kM_J2_157 : Cond.methodLink RJ2 157 yJ11_highSurrogate_5068e ∈ WL := wl_of (tb_4 (List.mem_of_getElem? (i := 25) rfl)) rfl
theorem kS_J11_highSurrogate_5068e : Cond.static yJ11_highSurrogate_5068e ∈ WL := wl_of (tb_4 (List.mem_of_getElem? (i := 26) rfl)) rfl
theorem kC_J11_highSurrogate_5068e : Cond.code yJ11_highSurrogate_5068e cJ11_highSurrogate_5068e 1 (some .char) ∈ WL := wl_of (tb_4 (List.mem_of_getElem? (i := 27) rfl)) rfl
theorem kK_J11_110 : Cond.constant RJ11 110 (55232) ∈ WL := wl_of (tb_4 (List.mem_of_getElem? (i := 28) rfl)) rfl
theorem kM_J2_161 : Cond.methodLink RJ2 161 yJ11_lowSurrogate_5068e ∈ WL := wl_of (tb_4 (List.mem_of_getElem? (i := 29) rfl)) rfl
theorem kS_J11_lowSurrogate_5068e : Cond.static yJ11_lowSurrogate_5068e ∈ WL := wl_of (tb_4 (List.mem_of_getElem? (i := 30) rfl)) rfl
theorem kC_J11_lowSurrogate_5068e : Cond.code yJ11_lowSurrogate_5068e cJ11_lowSurrogate_5068e 1 (some .char) ∈ WL := wl_of (tb_4 (List.mem_of_getElem? (i := 31) rfl)) rfl
theorem kK_J11_76 : Cond.constant RJ11 76 (56320) ∈ WL := wl_of (tb_4 (List.mem_of_getElem? (i := 32) rfl)) rfl
theorem kM_X3_95 : Cond.methodLink RX3 95 yX3_joinsHere ∈ WL := wl_of (tb_4 (List.mem_of_getElem? (i := 33) rfl)) rfl
theorem kN_X3_joinsHere : Cond.instanceMethod yX3_joinsHere ∈ WL := wl_of (tb_4 (List.mem_of_getElem? (i := 35) rfl)) rfl
theorem kC_X3_joinsHere : Cond.code yX3_joinsHere cX3_joinsHere 2 (some .boolean) ∈ WL := wl_of (tb_4 (List.mem_of_getElem? (i := 36) rfl)) rfl
theorem kM_X3_74 : Cond.methodLink RX3 74 yX3_signsOf ∈ WL := wl_of (tb_4 (List.mem_of_getElem? (i := 37) rfl)) rfl
theorem kS_X3_signsOf : Cond.static yX3_signsOf ∈ WL := wl_of (tb_4 (List.mem_of_getElem? (i := 38) rfl)) rfl
theorem kC_X3_signsOf : Cond.code yX3_signsOf cX3_signsOf 1 (some (.object "java/lang/String")) ∈ WL := wl_of (tb_4 (List.mem_of_getElem? (i := 39) rfl)) rfl
theorem kM_X7_258 : Cond.methodLink RX7 258 yX0_write ∈ WL := wl_of (tb_4 (List.mem_of_getElem? (i := 45) rfl)) rfl
theorem kN_X0_write : Cond.instanceMethod yX0_write ∈ WL := wl_of (tb_4 (List.mem_of_getElem? (i := 46) rfl)) rfl
theorem kV_X0_write : Cond.selects RX0 yX0_write yX0_write ∈ WL := wl_of (tb_4 (List.mem_of_getElem? (i := 47) rfl)) rfl
theorem kC_X0_write : Cond.code yX0_write cX0_write 3 none ∈ WL := wl_of (tb_4 (List.mem_of_getElem? (i := 48) rfl)) rfl
theorem kM_X0_42 : Cond.methodLink RX0 42 arraycopyName ∈ WL := wl_of (tb_4 (List.mem_of_getElem? (i := 49) rfl)) rfl
theorem kM_L_117 : Cond.methodLink RL 117 yX7_textTold ∈ WL := wl_of (tb_4 (List.mem_of_getElem? (i := 51) rfl)) rfl
theorem kN_X7_textTold : Cond.instanceMethod yX7_textTold ∈ WL := wl_of (tb_4 (List.mem_of_getElem? (i := 52) rfl)) rfl
theorem kV_X7_textTold : Cond.selects RX7 yX7_textTold yX7_textTold ∈ WL := wl_of (tb_4 (List.mem_of_getElem? (i := 53) rfl)) rfl
theorem kC_X7_textTold : Cond.code yX7_textTold cX7_textTold 3 (some .int) ∈ WL := wl_of (tb_4 (List.mem_of_getElem? (i := 54) rfl)) rfl
theorem kM_L_121 : Cond.methodLink RL 121 yX7_why ∈ WL := wl_of (tb_4 (List.mem_of_getElem? (i := 55) rfl)) rfl
theorem kN_X7_why : Cond.instanceMethod yX7_why ∈ WL := wl_of (tb_4 (List.mem_of_getElem? (i := 56) rfl)) rfl
theorem kV_X7_why : Cond.selects RX7 yX7_why yX7_why ∈ WL := wl_of (tb_4 (List.mem_of_getElem? (i := 57) rfl)) rfl
theorem kC_X7_why : Cond.code yX7_why cX7_why 3 (some .int) ∈ WL := wl_of (tb_4 (List.mem_of_getElem? (i := 58) rfl)) rfl
theorem kM_L_125 : Cond.methodLink RL 125 yX7_sheet ∈ WL := wl_of (tb_4 (List.mem_of_getElem? (i := 59) rfl)) rfl
theorem kN_X7_sheet : Cond.instanceMethod yX7_sheet ∈ WL := wl_of (tb_4 (List.mem_of_getElem? (i := 60) rfl)) rfl
theorem kV_X7_sheet : Cond.selects RX7 yX7_sheet yX7_sheet ∈ WL := wl_of (tb_4 (List.mem_of_getElem? (i := 61) rfl)) rfl
theorem kC_X7_sheet : Cond.code yX7_sheet cX7_sheet 4 (some .int) ∈ WL := wl_of (tb_4 (List.mem_of_getElem? (i := 62) rfl)) rfl
theorem kM_X7_268 : Cond.methodLink RX7 268 yX4_begin ∈ WL := wl_of (tb_4 (List.mem_of_getElem? (i := 63) rfl)) rfl
theorem kN_X4_begin : Cond.instanceMethod yX4_begin ∈ WL := wl_of (tb_4 (List.mem_of_getElem? (i := 64) rfl)) rfl
theorem kV_X4_begin : Cond.selects RX4 yX4_begin yX4_begin ∈ WL := wl_of (tb_4 (List.mem_of_getElem? (i := 65) rfl)) rfl
theorem kC_X4_begin : Cond.code yX4_begin cX4_begin 4 none ∈ WL := wl_of (tb_4 (List.mem_of_getElem? (i := 66) rfl)) rfl
theorem kK_X7_272 : Cond.constant RX7 272 (-1000000014) ∈ WL := wl_of (tb_4 (List.mem_of_getElem? (i := 67) rfl)) rfl
theorem kM_L_129 : Cond.methodLink RL 129 yX7_mark ∈ WL := wl_of (tb_4 (List.mem_of_getElem? (i := 68) rfl)) rfl
theorem kN_X7_mark : Cond.instanceMethod yX7_mark ∈ WL := wl_of (tb_4 (List.mem_of_getElem? (i := 69) rfl)) rfl
theorem kV_X7_mark : Cond.selects RX7 yX7_mark yX7_mark ∈ WL := wl_of (tb_4 (List.mem_of_getElem? (i := 70) rfl)) rfl
theorem kC_X7_mark : Cond.code yX7_mark cX7_mark 5 (some .int) ∈ WL := wl_of (tb_4 (List.mem_of_getElem? (i := 71) rfl)) rfl
theorem kM_X7_273 : Cond.methodLink RX7 273 yX4_hasNo ∈ WL := wl_of (tb_4 (List.mem_of_getElem? (i := 72) rfl)) rfl
theorem kK_X7_276 : Cond.constant RX7 276 (-1000000013) ∈ WL := wl_of (tb_4 (List.mem_of_getElem? (i := 73) rfl)) rfl
theorem kK_X7_280 : Cond.constant RX7 280 (-99999) ∈ WL := wl_of (tb_4 (List.mem_of_getElem? (i := 74) rfl)) rfl
theorem kK_X7_281 : Cond.constant RX7 281 (99999) ∈ WL := wl_of (tb_4 (List.mem_of_getElem? (i := 75) rfl)) rfl
theorem kM_L_133 : Cond.methodLink RL 133 yX7_pour ∈ WL := wl_of (tb_4 (List.mem_of_getElem? (i := 76) rfl)) rfl
theorem kN_X7_pour : Cond.instanceMethod yX7_pour ∈ WL := wl_of (tb_4 (List.mem_of_getElem? (i := 77) rfl)) rfl
theorem kV_X7_pour : Cond.selects RX7 yX7_pour yX7_pour ∈ WL := wl_of (tb_4 (List.mem_of_getElem? (i := 78) rfl)) rfl
theorem kC_X7_pour : Cond.code yX7_pour cX7_pour 7 (some .int) ∈ WL := wl_of (tb_4 (List.mem_of_getElem? (i := 79) rfl)) rfl
theorem kM_L_137 : Cond.methodLink RL 137 yX7_reads ∈ WL := wl_of (tb_4 (List.mem_of_getElem? (i := 80) rfl)) rfl
theorem kN_X7_reads : Cond.instanceMethod yX7_reads ∈ WL := wl_of (tb_4 (List.mem_of_getElem? (i := 81) rfl)) rfl
theorem kV_X7_reads : Cond.selects RX7 yX7_reads yX7_reads ∈ WL := wl_of (tb_4 (List.mem_of_getElem? (i := 82) rfl)) rfl
theorem kC_X7_reads : Cond.code yX7_reads cX7_reads 4 (some .int) ∈ WL := wl_of (tb_4 (List.mem_of_getElem? (i := 83) rfl)) rfl
theorem kM_L_141 : Cond.methodLink RL 141 yX7_copy ∈ WL := wl_of (tb_4 (List.mem_of_getElem? (i := 84) rfl)) rfl
theorem kN_X7_copy : Cond.instanceMethod yX7_copy ∈ WL := wl_of (tb_4 (List.mem_of_getElem? (i := 85) rfl)) rfl
theorem kV_X7_copy : Cond.selects RX7 yX7_copy yX7_copy ∈ WL := wl_of (tb_4 (List.mem_of_getElem? (i := 86) rfl)) rfl
theorem kC_X7_copy : Cond.code yX7_copy cX7_copy 8 (some .int) ∈ WL := wl_of (tb_4 (List.mem_of_getElem? (i := 87) rfl)) rfl
theorem kM_X7_282 : Cond.methodLink RX7 282 yX4_lacks ∈ WL := wl_of (tb_4 (List.mem_of_getElem? (i := 88) rfl)) rfl
theorem kN_X4_lacks : Cond.instanceMethod yX4_lacks ∈ WL := wl_of (tb_4 (List.mem_of_getElem? (i := 89) rfl)) rfl
theorem kV_X4_lacks : Cond.selects RX4 yX4_lacks yX4_lacks ∈ WL := wl_of (tb_4 (List.mem_of_getElem? (i := 90) rfl)) rfl
theorem kC_X4_lacks : Cond.code yX4_lacks cX4_lacks 3 (some .boolean) ∈ WL := wl_of (tb_4 (List.mem_of_getElem? (i := 91) rfl)) rfl
theorem kM_X7_285 : Cond.methodLink RX7 285 arraycopyName ∈ WL := wl_of (tb_4 (List.mem_of_getElem? (i := 92) rfl)) rfl
theorem kM_L_146 : Cond.methodLink RL 146 yX7_lay ∈ WL := wl_of (tb_4 (List.mem_of_getElem? (i := 93) rfl)) rfl
theorem kN_X7_lay : Cond.instanceMethod yX7_lay ∈ WL := wl_of (tb_4 (List.mem_of_getElem? (i := 94) rfl)) rfl
theorem kV_X7_lay : Cond.selects RX7 yX7_lay yX7_lay ∈ WL := wl_of (tb_4 (List.mem_of_getElem? (i := 95) rfl)) rfl
theorem kC_X7_lay : Cond.code yX7_lay cX7_lay 6 (some .int) ∈ WL := wl_of (tb_4 (List.mem_of_getElem? (i := 96) rfl)) rfl
theorem kM_X7_291 : Cond.methodLink RX7 291 yX7_isNoSlot ∈ WL := wl_of (tb_4 (List.mem_of_getElem? (i := 97) rfl)) rfl
theorem kS_X7_isNoSlot : Cond.static yX7_isNoSlot ∈ WL := wl_of (tb_4 (List.mem_of_getElem? (i := 98) rfl)) rfl
theorem kC_X7_isNoSlot : Cond.code yX7_isNoSlot cX7_isNoSlot 1 (some .boolean) ∈ WL := wl_of (tb_4 (List.mem_of_getElem? (i := 99) rfl)) rfl
theorem kM_X7_305 : Cond.methodLink RX7 305 yX4_become ∈ WL := wl_of (tb_4 (List.mem_of_getElem? (i := 100) rfl)) rfl
theorem kN_X4_become : Cond.instanceMethod yX4_become ∈ WL := wl_of (tb_4 (List.mem_of_getElem? (i := 101) rfl)) rfl
theorem kV_X4_become : Cond.selects RX4 yX4_become yX4_become ∈ WL := wl_of (tb_4 (List.mem_of_getElem? (i := 102) rfl)) rfl
theorem kC_X4_become : Cond.code yX4_become cX4_become 2 none ∈ WL := wl_of (tb_4 (List.mem_of_getElem? (i := 103) rfl)) rfl
theorem kM_X4_22 : Cond.methodLink RX4 22 arraycopyName ∈ WL := wl_of (tb_4 (List.mem_of_getElem? (i := 104) rfl)) rfl
theorem kM_L_150 : Cond.methodLink RL 150 yX7_ask ∈ WL := wl_of (tb_4 (List.mem_of_getElem? (i := 105) rfl)) rfl
theorem kN_X7_ask : Cond.instanceMethod yX7_ask ∈ WL := wl_of (tb_4 (List.mem_of_getElem? (i := 106) rfl)) rfl
theorem kV_X7_ask : Cond.selects RX7 yX7_ask yX7_ask ∈ WL := wl_of (tb_4 (List.mem_of_getElem? (i := 107) rfl)) rfl
theorem kC_X7_ask : Cond.code yX7_ask cX7_ask 5 (some .int) ∈ WL := wl_of (tb_4 (List.mem_of_getElem? (i := 108) rfl)) rfl
theorem kM_X7_311 : Cond.methodLink RX7 311 yX5_isNot ∈ WL := wl_of (tb_4 (List.mem_of_getElem? (i := 109) rfl)) rfl
theorem kN_X5_isNot : Cond.instanceMethod yX5_isNot ∈ WL := wl_of (tb_4 (List.mem_of_getElem? (i := 110) rfl)) rfl
theorem kV_X5_isNot : Cond.selects RX5 yX5_isNot yX5_isNot ∈ WL := wl_of (tb_4 (List.mem_of_getElem? (i := 111) rfl)) rfl
theorem kC_X5_isNot : Cond.code yX5_isNot cX5_isNot 2 (some .int) ∈ WL := wl_of (tb_4 (List.mem_of_getElem? (i := 112) rfl)) rfl
theorem kK_X5_31 : Cond.constant RX5 31 (-1000000011) ∈ WL := wl_of (tb_4 (List.mem_of_getElem? (i := 113) rfl)) rfl
theorem kK_X5_32 : Cond.constant RX5 32 (-1000000012) ∈ WL := wl_of (tb_4 (List.mem_of_getElem? (i := 114) rfl)) rfl
theorem kM_L_154 : Cond.methodLink RL 154 yX7_item ∈ WL := wl_of (tb_4 (List.mem_of_getElem? (i := 115) rfl)) rfl
theorem kN_X7_item : Cond.instanceMethod yX7_item ∈ WL := wl_of (tb_4 (List.mem_of_getElem? (i := 116) rfl)) rfl
theorem kV_X7_item : Cond.selects RX7 yX7_item yX7_item ∈ WL := wl_of (tb_4 (List.mem_of_getElem? (i := 117) rfl)) rfl
theorem kC_X7_item : Cond.code yX7_item cX7_item 5 (some .int) ∈ WL := wl_of (tb_4 (List.mem_of_getElem? (i := 118) rfl)) rfl
theorem kM_L_158 : Cond.methodLink RL 158 yX7_rest ∈ WL := wl_of (tb_4 (List.mem_of_getElem? (i := 119) rfl)) rfl
theorem kN_X7_rest : Cond.instanceMethod yX7_rest ∈ WL := wl_of (tb_4 (List.mem_of_getElem? (i := 120) rfl)) rfl
theorem kV_X7_rest : Cond.selects RX7 yX7_rest yX7_rest ∈ WL := wl_of (tb_4 (List.mem_of_getElem? (i := 121) rfl)) rfl
theorem kC_X7_rest : Cond.code yX7_rest cX7_rest 4 (some .int) ∈ WL := wl_of (tb_4 (List.mem_of_getElem? (i := 122) rfl)) rfl
theorem kM_L_162 : Cond.methodLink RL 162 yX7_tell ∈ WL := wl_of (tb_4 (List.mem_of_getElem? (i := 123) rfl)) rfl
theorem kN_X7_tell : Cond.instanceMethod yX7_tell ∈ WL := wl_of (tb_4 (List.mem_of_getElem? (i := 124) rfl)) rfl
theorem kV_X7_tell : Cond.selects RX7 yX7_tell yX7_tell ∈ WL := wl_of (tb_4 (List.mem_of_getElem? (i := 125) rfl)) rfl
theorem kC_X7_tell : Cond.code yX7_tell cX7_tell 2 (some .int) ∈ WL := wl_of (tb_4 (List.mem_of_getElem? (i := 126) rfl)) rfl
theorem kM_L_166 : Cond.methodLink RL 166 yX7_check ∈ WL := wl_of (tb_4 (List.mem_of_getElem? (i := 127) rfl)) rfl
theorem kN_X7_check : Cond.instanceMethod yX7_check ∈ WL := wl_of (tb_4 (List.mem_of_getElem? (i := 128) rfl)) rfl
theorem kV_X7_check : Cond.selects RX7 yX7_check yX7_check ∈ WL := wl_of (tb_4 (List.mem_of_getElem? (i := 129) rfl)) rfl
theorem kC_X7_check : Cond.code yX7_check cX7_check 6 (some .int) ∈ WL := wl_of (tb_4 (List.mem_of_getElem? (i := 130) rfl)) rfl
theorem kM_L_170 : Cond.methodLink RL 170 yX7_keep ∈ WL := wl_of (tb_4 (List.mem_of_getElem? (i := 131) rfl)) rfl
theorem kN_X7_keep : Cond.instanceMethod yX7_keep ∈ WL := wl_of (tb_4 (List.mem_of_getElem? (i := 132) rfl)) rfl
theorem kV_X7_keep : Cond.selects RX7 yX7_keep yX7_keep ∈ WL := wl_of (tb_4 (List.mem_of_getElem? (i := 133) rfl)) rfl
theorem kC_X7_keep : Cond.code yX7_keep cX7_keep 1 (some .int) ∈ WL := wl_of (tb_4 (List.mem_of_getElem? (i := 134) rfl)) rfl
theorem kM_L_174 : Cond.methodLink RL 174 yX7_back ∈ WL := wl_of (tb_4 (List.mem_of_getElem? (i := 135) rfl)) rfl
theorem kN_X7_back : Cond.instanceMethod yX7_back ∈ WL := wl_of (tb_4 (List.mem_of_getElem? (i := 136) rfl)) rfl
theorem kV_X7_back : Cond.selects RX7 yX7_back yX7_back ∈ WL := wl_of (tb_4 (List.mem_of_getElem? (i := 137) rfl)) rfl
theorem kC_X7_back : Cond.code yX7_back cX7_back 1 (some .int) ∈ WL := wl_of (tb_4 (List.mem_of_getElem? (i := 138) rfl)) rfl
theorem kM_L_178 : Cond.methodLink RL 178 yX7_count ∈ WL := wl_of (tb_4 (List.mem_of_getElem? (i := 139) rfl)) rfl
theorem kN_X7_count : Cond.instanceMethod yX7_count ∈ WL := wl_of (tb_4 (List.mem_of_getElem? (i := 140) rfl)) rfl
theorem kV_X7_count : Cond.selects RX7 yX7_count yX7_count ∈ WL := wl_of (tb_4 (List.mem_of_getElem? (i := 141) rfl)) rfl
theorem kC_X7_count : Cond.code yX7_count cX7_count 2 (some .int) ∈ WL := wl_of (tb_4 (List.mem_of_getElem? (i := 142) rfl)) rfl
theorem kM_X7_314 : Cond.methodLink RX7 314 yJ6_bitCount_0f7a4 ∈ WL := wl_of (tb_4 (List.mem_of_getElem? (i := 143) rfl)) rfl
theorem kCL_L_10 : Cond.classLink RL 10 RX8 ∈ WL := wl_of (tb_4 (List.mem_of_getElem? (i := 144) rfl)) rfl
theorem kIn_X8 : Cond.instantiable RX8 31 ∈ WL := wl_of (tb_4 (List.mem_of_getElem? (i := 145) rfl)) rfl
theorem kM_L_12 : Cond.methodLink RL 12 yX8_init ∈ WL := wl_of (tb_4 (List.mem_of_getElem? (i := 146) rfl)) rfl
theorem kN_X8_init : Cond.instanceMethod yX8_init ∈ WL := wl_of (tb_4 (List.mem_of_getElem? (i := 147) rfl)) rfl
theorem kC_X8_init : Cond.code yX8_init cX8_init 2 none ∈ WL := wl_of (tb_4 (List.mem_of_getElem? (i := 148) rfl)) rfl
theorem kM_X8_1 : Cond.methodLink RX8 1 objectInit ∈ WL := wl_of (tb_4 (List.mem_of_getElem? (i := 149) rfl)) rfl
theorem kF_X8_7 : Cond.fieldLink RX8 7 "HalfFriendsModel" "s" "[I" ∈ WL := wl_of (tb_4 (List.mem_of_getElem? (i := 150) rfl)) rfl
theorem kF_X8_13 : Cond.fieldLink RX8 13 "HalfFriendsModel" "image" "[I" ∈ WL := wl_of (tb_4 (List.mem_of_getElem? (i := 151) rfl)) rfl
theorem kF_X8_16 : Cond.fieldLink RX8 16 "HalfFriendsModel" "aside" "[I" ∈ WL := wl_of (tb_4 (List.mem_of_getElem? (i := 152) rfl)) rfl
theorem kF_X8_339 : Cond.fieldLink RX8 339 "HalfFriendsModel" "hasImage" "Z" ∈ WL := wl_of (tb_4 (List.mem_of_getElem? (i := 153) rfl)) rfl
theorem kF_X8_19 : Cond.fieldLink RX8 19 "HalfFriendsModel" "tSort" "[I" ∈ WL := wl_of (tb_4 (List.mem_of_getElem? (i := 154) rfl)) rfl
theorem kF_X8_22 : Cond.fieldLink RX8 22 "HalfFriendsModel" "tSize" "[I" ∈ WL := wl_of (tb_4 (List.mem_of_getElem? (i := 155) rfl)) rfl
theorem kF_X8_25 : Cond.fieldLink RX8 25 "HalfFriendsModel" "tNumber" "[I" ∈ WL := wl_of (tb_4 (List.mem_of_getElem? (i := 156) rfl)) rfl
theorem kF_X8_28 : Cond.fieldLink RX8 28 "HalfFriendsModel" "held" "[I" ∈ WL := wl_of (tb_4 (List.mem_of_getElem? (i := 157) rfl)) rfl
theorem kF_X8_31 : Cond.fieldLink RX8 31 "HalfFriendsModel" "heldNumber" "[I" ∈ WL := wl_of (tb_4 (List.mem_of_getElem? (i := 158) rfl)) rfl
theorem kF_X8_34 : Cond.fieldLink RX8 34 "HalfFriendsModel" "heldWorth" "[I" ∈ WL := wl_of (tb_4 (List.mem_of_getElem? (i := 159) rfl)) rfl
theorem kF_X8_37 : Cond.fieldLink RX8 37 "HalfFriendsModel" "heldSize" "[I" ∈ WL := wl_of (tb_4 (List.mem_of_getElem? (i := 160) rfl)) rfl
theorem kF_X8_40 : Cond.fieldLink RX8 40 "HalfFriendsModel" "heldRow" "[I" ∈ WL := wl_of (tb_4 (List.mem_of_getElem? (i := 161) rfl)) rfl
theorem kF_X8_43 : Cond.fieldLink RX8 43 "HalfFriendsModel" "close" "[I" ∈ WL := wl_of (tb_4 (List.mem_of_getElem? (i := 162) rfl)) rfl
theorem kF_X8_46 : Cond.fieldLink RX8 46 "HalfFriendsModel" "tape" "[I" ∈ WL := wl_of (tb_4 (List.mem_of_getElem? (i := 163) rfl)) rfl
theorem kF_X8_217 : Cond.fieldLink RX8 217 "HalfFriendsModel" "taped" "I" ∈ WL := wl_of (tb_4 (List.mem_of_getElem? (i := 164) rfl)) rfl
theorem kF_X8_235 : Cond.fieldLink RX8 235 "HalfFriendsModel" "begin" "I" ∈ WL := wl_of (tb_4 (List.mem_of_getElem? (i := 165) rfl)) rfl
theorem kF_X8_229 : Cond.fieldLink RX8 229 "HalfFriendsModel" "behind" "I" ∈ WL := wl_of (tb_4 (List.mem_of_getElem? (i := 166) rfl)) rfl
theorem kF_X8_232 : Cond.fieldLink RX8 232 "HalfFriendsModel" "token" "I" ∈ WL := wl_of (tb_4 (List.mem_of_getElem? (i := 167) rfl)) rfl
theorem kF_X8_247 : Cond.fieldLink RX8 247 "HalfFriendsModel" "number" "I" ∈ WL := wl_of (tb_4 (List.mem_of_getElem? (i := 168) rfl)) rfl
theorem kF_X8_241 : Cond.fieldLink RX8 241 "HalfFriendsModel" "letter" "I" ∈ WL := wl_of (tb_4 (List.mem_of_getElem? (i := 169) rfl)) rfl
theorem kF_X8_293 : Cond.fieldLink RX8 293 "HalfFriendsModel" "deep" "I" ∈ WL := wl_of (tb_4 (List.mem_of_getElem? (i := 170) rfl)) rfl
theorem kF_X8_290 : Cond.fieldLink RX8 290 "HalfFriendsModel" "turned" "I" ∈ WL := wl_of (tb_4 (List.mem_of_getElem? (i := 171) rfl)) rfl
theorem kF_X8_257 : Cond.fieldLink RX8 257 "HalfFriendsModel" "laid" "I" ∈ WL := wl_of (tb_4 (List.mem_of_getElem? (i := 172) rfl)) rfl
theorem kF_X8_254 : Cond.fieldLink RX8 254 "HalfFriendsModel" "laidAt" "I" ∈ WL := wl_of (tb_4 (List.mem_of_getElem? (i := 173) rfl)) rfl
theorem kF_X8_284 : Cond.fieldLink RX8 284 "HalfFriendsModel" "said" "I" ∈ WL := wl_of (tb_4 (List.mem_of_getElem? (i := 174) rfl)) rfl
theorem kF_X8_49 : Cond.fieldLink RX8 49 "HalfFriendsModel" "named" "[I" ∈ WL := wl_of (tb_4 (List.mem_of_getElem? (i := 175) rfl)) rfl
theorem kF_X8_52 : Cond.fieldLink RX8 52 "HalfFriendsModel" "pile" "[I" ∈ WL := wl_of (tb_4 (List.mem_of_getElem? (i := 176) rfl)) rfl
theorem kF_X8_55 : Cond.fieldLink RX8 55 "HalfFriendsModel" "carried" "[I" ∈ WL := wl_of (tb_4 (List.mem_of_getElem? (i := 177) rfl)) rfl
theorem kF_X8_58 : Cond.fieldLink RX8 58 "HalfFriendsModel" "waits" "[I" ∈ WL := wl_of (tb_4 (List.mem_of_getElem? (i := 178) rfl)) rfl
theorem kF_X8_334 : Cond.fieldLink RX8 334 "HalfFriendsModel" "waiting" "I" ∈ WL := wl_of (tb_4 (List.mem_of_getElem? (i := 179) rfl)) rfl
theorem kF_X8_61 : Cond.fieldLink RX8 61 "HalfFriendsModel" "rowDue" "[I" ∈ WL := wl_of (tb_4 (List.mem_of_getElem? (i := 180) rfl)) rfl
theorem kY_X8_s : Cond.laysFinal RX8 "HalfFriendsModel" "s" "[I" ∈ WL := wl_of (tb_4 (List.mem_of_getElem? (i := 181) rfl)) rfl
theorem kY_X8_image : Cond.laysFinal RX8 "HalfFriendsModel" "image" "[I" ∈ WL := wl_of (tb_4 (List.mem_of_getElem? (i := 183) rfl)) rfl
theorem kY_X8_aside : Cond.laysFinal RX8 "HalfFriendsModel" "aside" "[I" ∈ WL := wl_of (tb_4 (List.mem_of_getElem? (i := 185) rfl)) rfl
theorem kY_X8_hasImage : Cond.lays RX8 "HalfFriendsModel" "hasImage" "Z" ∈ WL := wl_of (tb_4 (List.mem_of_getElem? (i := 187) rfl)) rfl
theorem kY_X8_tSort : Cond.laysFinal RX8 "HalfFriendsModel" "tSort" "[I" ∈ WL := wl_of (tb_4 (List.mem_of_getElem? (i := 189) rfl)) rfl
theorem kY_X8_tSize : Cond.laysFinal RX8 "HalfFriendsModel" "tSize" "[I" ∈ WL := wl_of (tb_4 (List.mem_of_getElem? (i := 191) rfl)) rfl
theorem kY_X8_tNumber : Cond.laysFinal RX8 "HalfFriendsModel" "tNumber" "[I" ∈ WL := wl_of (tb_4 (List.mem_of_getElem? (i := 193) rfl)) rfl
theorem kY_X8_held : Cond.laysFinal RX8 "HalfFriendsModel" "held" "[I" ∈ WL := wl_of (tb_4 (List.mem_of_getElem? (i := 195) rfl)) rfl
theorem kY_X8_heldNumber : Cond.laysFinal RX8 "HalfFriendsModel" "heldNumber" "[I" ∈ WL := wl_of (tb_4 (List.mem_of_getElem? (i := 197) rfl)) rfl
theorem kY_X8_heldWorth : Cond.laysFinal RX8 "HalfFriendsModel" "heldWorth" "[I" ∈ WL := wl_of (tb_4 (List.mem_of_getElem? (i := 199) rfl)) rfl
theorem kY_X8_heldSize : Cond.laysFinal RX8 "HalfFriendsModel" "heldSize" "[I" ∈ WL := wl_of (tb_4 (List.mem_of_getElem? (i := 201) rfl)) rfl
theorem kY_X8_heldRow : Cond.laysFinal RX8 "HalfFriendsModel" "heldRow" "[I" ∈ WL := wl_of (tb_4 (List.mem_of_getElem? (i := 203) rfl)) rfl
theorem kY_X8_close : Cond.laysFinal RX8 "HalfFriendsModel" "close" "[I" ∈ WL := wl_of (tb_4 (List.mem_of_getElem? (i := 205) rfl)) rfl
theorem kY_X8_tape : Cond.laysFinal RX8 "HalfFriendsModel" "tape" "[I" ∈ WL := wl_of (tb_4 (List.mem_of_getElem? (i := 207) rfl)) rfl
theorem kY_X8_taped : Cond.lays RX8 "HalfFriendsModel" "taped" "I" ∈ WL := wl_of (tb_4 (List.mem_of_getElem? (i := 209) rfl)) rfl
theorem kY_X8_begin : Cond.lays RX8 "HalfFriendsModel" "begin" "I" ∈ WL := wl_of (tb_4 (List.mem_of_getElem? (i := 211) rfl)) rfl
theorem kY_X8_behind : Cond.lays RX8 "HalfFriendsModel" "behind" "I" ∈ WL := wl_of (tb_4 (List.mem_of_getElem? (i := 213) rfl)) rfl
theorem kY_X8_token : Cond.lays RX8 "HalfFriendsModel" "token" "I" ∈ WL := wl_of (tb_4 (List.mem_of_getElem? (i := 215) rfl)) rfl
theorem kY_X8_number : Cond.lays RX8 "HalfFriendsModel" "number" "I" ∈ WL := wl_of (tb_4 (List.mem_of_getElem? (i := 217) rfl)) rfl
theorem kY_X8_letter : Cond.lays RX8 "HalfFriendsModel" "letter" "I" ∈ WL := wl_of (tb_4 (List.mem_of_getElem? (i := 219) rfl)) rfl
theorem kY_X8_deep : Cond.lays RX8 "HalfFriendsModel" "deep" "I" ∈ WL := wl_of (tb_4 (List.mem_of_getElem? (i := 221) rfl)) rfl
theorem kY_X8_turned : Cond.lays RX8 "HalfFriendsModel" "turned" "I" ∈ WL := wl_of (tb_4 (List.mem_of_getElem? (i := 223) rfl)) rfl
theorem kY_X8_laid : Cond.lays RX8 "HalfFriendsModel" "laid" "I" ∈ WL := wl_of (tb_4 (List.mem_of_getElem? (i := 225) rfl)) rfl
theorem kY_X8_laidAt : Cond.lays RX8 "HalfFriendsModel" "laidAt" "I" ∈ WL := wl_of (tb_4 (List.mem_of_getElem? (i := 227) rfl)) rfl
theorem kY_X8_said : Cond.lays RX8 "HalfFriendsModel" "said" "I" ∈ WL := wl_of (tb_4 (List.mem_of_getElem? (i := 229) rfl)) rfl
theorem kY_X8_named : Cond.laysFinal RX8 "HalfFriendsModel" "named" "[I" ∈ WL := wl_of (tb_4 (List.mem_of_getElem? (i := 231) rfl)) rfl
theorem kY_X8_pile : Cond.laysFinal RX8 "HalfFriendsModel" "pile" "[I" ∈ WL := wl_of (tb_4 (List.mem_of_getElem? (i := 233) rfl)) rfl
theorem kY_X8_carried : Cond.laysFinal RX8 "HalfFriendsModel" "carried" "[I" ∈ WL := wl_of (tb_4 (List.mem_of_getElem? (i := 235) rfl)) rfl
theorem kY_X8_waits : Cond.laysFinal RX8 "HalfFriendsModel" "waits" "[I" ∈ WL := wl_of (tb_4 (List.mem_of_getElem? (i := 237) rfl)) rfl
theorem kY_X8_waiting : Cond.lays RX8 "HalfFriendsModel" "waiting" "I" ∈ WL := wl_of (tb_4 (List.mem_of_getElem? (i := 239) rfl)) rfl
theorem kY_X8_rowDue : Cond.laysFinal RX8 "HalfFriendsModel" "rowDue" "[I" ∈ WL := wl_of (tb_5 (List.mem_of_getElem? (i := 1) rfl)) rfl
theorem kM_L_17 : Cond.methodLink RL 17 yX8_person ∈ WL := wl_of (tb_5 (List.mem_of_getElem? (i := 4) rfl)) rfl
theorem kN_X8_person : Cond.instanceMethod yX8_person ∈ WL := wl_of (tb_5 (List.mem_of_getElem? (i := 5) rfl)) rfl
theorem kV_X8_person : Cond.selects RX8 yX8_person yX8_person ∈ WL := wl_of (tb_5 (List.mem_of_getElem? (i := 6) rfl)) rfl
theorem kC_X8_person : Cond.code yX8_person cX8_person 4 (some .int) ∈ WL := wl_of (tb_5 (List.mem_of_getElem? (i := 7) rfl)) rfl
theorem kL_X8_74 : Cond.constantLong RX8 74 (5) ∈ WL := wl_of (tb_5 (List.mem_of_getElem? (i := 8) rfl)) rfl
theorem kM_X8_65 : Cond.methodLink RX8 65 yX8_isIn ∈ WL := wl_of (tb_5 (List.mem_of_getElem? (i := 9) rfl)) rfl
theorem kS_X8_isIn : Cond.static yX8_isIn ∈ WL := wl_of (tb_5 (List.mem_of_getElem? (i := 10) rfl)) rfl
theorem kC_X8_isIn : Cond.code yX8_isIn cX8_isIn 6 (some .boolean) ∈ WL := wl_of (tb_5 (List.mem_of_getElem? (i := 11) rfl)) rfl
theorem kL_X8_76 : Cond.constantLong RX8 76 (99) ∈ WL := wl_of (tb_5 (List.mem_of_getElem? (i := 12) rfl)) rfl
theorem kK_X8_78 : Cond.constant RX8 78 (-1000000001) ∈ WL := wl_of (tb_5 (List.mem_of_getElem? (i := 13) rfl)) rfl
theorem kK_X8_79 : Cond.constant RX8 79 (-1000000003) ∈ WL := wl_of (tb_5 (List.mem_of_getElem? (i := 14) rfl)) rfl
theorem kM_X8_80 : Cond.methodLink RX8 80 yX8_comes ∈ WL := wl_of (tb_5 (List.mem_of_getElem? (i := 15) rfl)) rfl
theorem kN_X8_comes : Cond.instanceMethod yX8_comes ∈ WL := wl_of (tb_5 (List.mem_of_getElem? (i := 17) rfl)) rfl
theorem kC_X8_comes : Cond.code yX8_comes cX8_comes 5 none ∈ WL := wl_of (tb_5 (List.mem_of_getElem? (i := 18) rfl)) rfl
theorem kM_X8_70 : Cond.methodLink RX8 70 yX8_sets ∈ WL := wl_of (tb_5 (List.mem_of_getElem? (i := 19) rfl)) rfl
theorem kN_X8_sets : Cond.instanceMethod yX8_sets ∈ WL := wl_of (tb_5 (List.mem_of_getElem? (i := 21) rfl)) rfl
theorem kC_X8_sets : Cond.code yX8_sets cX8_sets 4 none ∈ WL := wl_of (tb_5 (List.mem_of_getElem? (i := 22) rfl)) rfl
theorem kM_L_22 : Cond.methodLink RL 22 yX8_told ∈ WL := wl_of (tb_5 (List.mem_of_getElem? (i := 23) rfl)) rfl
theorem kN_X8_told : Cond.instanceMethod yX8_told ∈ WL := wl_of (tb_5 (List.mem_of_getElem? (i := 24) rfl)) rfl
theorem kV_X8_told : Cond.selects RX8 yX8_told yX8_told ∈ WL := wl_of (tb_5 (List.mem_of_getElem? (i := 25) rfl)) rfl
theorem kC_X8_told : Cond.code yX8_told cX8_told 3 (some .int) ∈ WL := wl_of (tb_5 (List.mem_of_getElem? (i := 26) rfl)) rfl
theorem kM_X8_114 : Cond.methodLink RX8 114 yX8_isOne ∈ WL := wl_of (tb_5 (List.mem_of_getElem? (i := 27) rfl)) rfl
theorem kN_X8_isOne : Cond.instanceMethod yX8_isOne ∈ WL := wl_of (tb_5 (List.mem_of_getElem? (i := 29) rfl)) rfl
theorem kC_X8_isOne : Cond.code yX8_isOne cX8_isOne 2 (some .boolean) ∈ WL := wl_of (tb_5 (List.mem_of_getElem? (i := 30) rfl)) rfl
theorem kM_X8_83 : Cond.methodLink RX8 83 yX8_of ∈ WL := wl_of (tb_5 (List.mem_of_getElem? (i := 31) rfl)) rfl
theorem kN_X8_of : Cond.instanceMethod yX8_of ∈ WL := wl_of (tb_5 (List.mem_of_getElem? (i := 33) rfl)) rfl
theorem kC_X8_of : Cond.code yX8_of cX8_of 3 (some .int) ∈ WL := wl_of (tb_5 (List.mem_of_getElem? (i := 34) rfl)) rfl
theorem kM_X8_101 : Cond.methodLink RX8 101 yX8_offOf ∈ WL := wl_of (tb_5 (List.mem_of_getElem? (i := 35) rfl)) rfl
theorem kN_X8_offOf : Cond.instanceMethod yX8_offOf ∈ WL := wl_of (tb_5 (List.mem_of_getElem? (i := 37) rfl)) rfl
theorem kC_X8_offOf : Cond.code yX8_offOf cX8_offOf 2 (some .int) ∈ WL := wl_of (tb_5 (List.mem_of_getElem? (i := 38) rfl)) rfl
theorem kM_X8_94 : Cond.methodLink RX8 94 yX8_forNow ∈ WL := wl_of (tb_5 (List.mem_of_getElem? (i := 39) rfl)) rfl
theorem kN_X8_forNow : Cond.instanceMethod yX8_forNow ∈ WL := wl_of (tb_5 (List.mem_of_getElem? (i := 41) rfl)) rfl
theorem kC_X8_forNow : Cond.code yX8_forNow cX8_forNow 3 (some .int) ∈ WL := wl_of (tb_5 (List.mem_of_getElem? (i := 42) rfl)) rfl
theorem kM_X8_98 : Cond.methodLink RX8 98 yX8_offBy ∈ WL := wl_of (tb_5 (List.mem_of_getElem? (i := 43) rfl)) rfl
theorem kN_X8_offBy : Cond.instanceMethod yX8_offBy ∈ WL := wl_of (tb_5 (List.mem_of_getElem? (i := 45) rfl)) rfl
theorem kC_X8_offBy : Cond.code yX8_offBy cX8_offBy 4 (some .int) ∈ WL := wl_of (tb_5 (List.mem_of_getElem? (i := 46) rfl)) rfl
theorem kM_X8_87 : Cond.methodLink RX8 87 yX8_manyIn ∈ WL := wl_of (tb_5 (List.mem_of_getElem? (i := 47) rfl)) rfl
theorem kS_X8_manyIn : Cond.static yX8_manyIn ∈ WL := wl_of (tb_5 (List.mem_of_getElem? (i := 48) rfl)) rfl
theorem kC_X8_manyIn : Cond.code yX8_manyIn cX8_manyIn 3 (some .int) ∈ WL := wl_of (tb_5 (List.mem_of_getElem? (i := 49) rfl)) rfl
theorem kM_X8_91 : Cond.methodLink RX8 91 yX8_off ∈ WL := wl_of (tb_5 (List.mem_of_getElem? (i := 50) rfl)) rfl
theorem kS_X8_off : Cond.static yX8_off ∈ WL := wl_of (tb_5 (List.mem_of_getElem? (i := 51) rfl)) rfl
theorem kC_X8_off : Cond.code yX8_off cX8_off 2 (some .int) ∈ WL := wl_of (tb_5 (List.mem_of_getElem? (i := 52) rfl)) rfl
theorem kM_X8_118 : Cond.methodLink RX8 118 yX8_dues ∈ WL := wl_of (tb_5 (List.mem_of_getElem? (i := 53) rfl)) rfl
theorem kN_X8_dues : Cond.instanceMethod yX8_dues ∈ WL := wl_of (tb_5 (List.mem_of_getElem? (i := 55) rfl)) rfl
theorem kC_X8_dues : Cond.code yX8_dues cX8_dues 4 (some .int) ∈ WL := wl_of (tb_5 (List.mem_of_getElem? (i := 56) rfl)) rfl
theorem kM_X8_104 : Cond.methodLink RX8 104 yX8_counts ∈ WL := wl_of (tb_5 (List.mem_of_getElem? (i := 57) rfl)) rfl
theorem kN_X8_counts : Cond.instanceMethod yX8_counts ∈ WL := wl_of (tb_5 (List.mem_of_getElem? (i := 59) rfl)) rfl
theorem kC_X8_counts : Cond.code yX8_counts cX8_counts 4 (some .int) ∈ WL := wl_of (tb_5 (List.mem_of_getElem? (i := 60) rfl)) rfl
theorem kM_X8_299 : Cond.methodLink RX8 299 yX8_textAt ∈ WL := wl_of (tb_5 (List.mem_of_getElem? (i := 61) rfl)) rfl
theorem kN_X8_textAt : Cond.instanceMethod yX8_textAt ∈ WL := wl_of (tb_5 (List.mem_of_getElem? (i := 63) rfl)) rfl
theorem kC_X8_textAt : Cond.code yX8_textAt cX8_textAt 2 (some .int) ∈ WL := wl_of (tb_5 (List.mem_of_getElem? (i := 64) rfl)) rfl
theorem kM_X8_107 : Cond.methodLink RX8 107 yX8_worked ∈ WL := wl_of (tb_5 (List.mem_of_getElem? (i := 65) rfl)) rfl
theorem kN_X8_worked : Cond.instanceMethod yX8_worked ∈ WL := wl_of (tb_5 (List.mem_of_getElem? (i := 67) rfl)) rfl
theorem kC_X8_worked : Cond.code yX8_worked cX8_worked 6 (some .int) ∈ WL := wl_of (tb_5 (List.mem_of_getElem? (i := 68) rfl)) rfl
theorem kM_X8_311 : Cond.methodLink RX8 311 yX8_joined ∈ WL := wl_of (tb_5 (List.mem_of_getElem? (i := 69) rfl)) rfl
theorem kS_X8_joined : Cond.static yX8_joined ∈ WL := wl_of (tb_5 (List.mem_of_getElem? (i := 70) rfl)) rfl
theorem kC_X8_joined : Cond.code yX8_joined cX8_joined 3 (some .int) ∈ WL := wl_of (tb_5 (List.mem_of_getElem? (i := 71) rfl)) rfl
theorem kM_X8_110 : Cond.methodLink RX8 110 yX8_within ∈ WL := wl_of (tb_5 (List.mem_of_getElem? (i := 72) rfl)) rfl
theorem kS_X8_within : Cond.static yX8_within ∈ WL := wl_of (tb_5 (List.mem_of_getElem? (i := 73) rfl)) rfl
theorem kC_X8_within : Cond.code yX8_within cX8_within 3 (some .int) ∈ WL := wl_of (tb_5 (List.mem_of_getElem? (i := 74) rfl)) rfl
theorem kM_X8_121 : Cond.methodLink RX8 121 yX8_asks ∈ WL := wl_of (tb_5 (List.mem_of_getElem? (i := 75) rfl)) rfl
theorem kN_X8_asks : Cond.instanceMethod yX8_asks ∈ WL := wl_of (tb_5 (List.mem_of_getElem? (i := 77) rfl)) rfl
theorem kC_X8_asks : Cond.code yX8_asks cX8_asks 3 (some .int) ∈ WL := wl_of (tb_5 (List.mem_of_getElem? (i := 78) rfl)) rfl
theorem kM_X8_124 : Cond.methodLink RX8 124 yX8_worth ∈ WL := wl_of (tb_5 (List.mem_of_getElem? (i := 79) rfl)) rfl
theorem kN_X8_worth : Cond.instanceMethod yX8_worth ∈ WL := wl_of (tb_5 (List.mem_of_getElem? (i := 81) rfl)) rfl
theorem kC_X8_worth : Cond.code yX8_worth cX8_worth 3 (some .int) ∈ WL := wl_of (tb_5 (List.mem_of_getElem? (i := 82) rfl)) rfl
theorem kM_L_26 : Cond.methodLink RL 26 yX8_as ∈ WL := wl_of (tb_5 (List.mem_of_getElem? (i := 83) rfl)) rfl
theorem kN_X8_as : Cond.instanceMethod yX8_as ∈ WL := wl_of (tb_5 (List.mem_of_getElem? (i := 84) rfl)) rfl
theorem kV_X8_as : Cond.selects RX8 yX8_as yX8_as ∈ WL := wl_of (tb_5 (List.mem_of_getElem? (i := 85) rfl)) rfl
theorem kC_X8_as : Cond.code yX8_as cX8_as 3 (some .int) ∈ WL := wl_of (tb_5 (List.mem_of_getElem? (i := 86) rfl)) rfl
theorem kM_X8_127 : Cond.methodLink RX8 127 yX8_isOf ∈ WL := wl_of (tb_5 (List.mem_of_getElem? (i := 87) rfl)) rfl
theorem kS_X8_isOf : Cond.static yX8_isOf ∈ WL := wl_of (tb_5 (List.mem_of_getElem? (i := 88) rfl)) rfl
theorem kC_X8_isOf : Cond.code yX8_isOf cX8_isOf 2 (some .boolean) ∈ WL := wl_of (tb_5 (List.mem_of_getElem? (i := 89) rfl)) rfl
theorem kK_X8_131 : Cond.constant RX8 131 (-1000000012) ∈ WL := wl_of (tb_5 (List.mem_of_getElem? (i := 90) rfl)) rfl
theorem kM_L_30 : Cond.methodLink RL 30 yX8_turns ∈ WL := wl_of (tb_5 (List.mem_of_getElem? (i := 91) rfl)) rfl
theorem kN_X8_turns : Cond.instanceMethod yX8_turns ∈ WL := wl_of (tb_5 (List.mem_of_getElem? (i := 92) rfl)) rfl
theorem kV_X8_turns : Cond.selects RX8 yX8_turns yX8_turns ∈ WL := wl_of (tb_5 (List.mem_of_getElem? (i := 93) rfl)) rfl
theorem kC_X8_turns : Cond.code yX8_turns cX8_turns 3 (some .int) ∈ WL := wl_of (tb_5 (List.mem_of_getElem? (i := 94) rfl)) rfl
theorem kM_X8_132 : Cond.methodLink RX8 132 yX8_becomes ∈ WL := wl_of (tb_5 (List.mem_of_getElem? (i := 95) rfl)) rfl
theorem kN_X8_becomes : Cond.instanceMethod yX8_becomes ∈ WL := wl_of (tb_5 (List.mem_of_getElem? (i := 97) rfl)) rfl
theorem kC_X8_becomes : Cond.code yX8_becomes cX8_becomes 4 (some .int) ∈ WL := wl_of (tb_5 (List.mem_of_getElem? (i := 98) rfl)) rfl
theorem kM_L_34 : Cond.methodLink RL 34 yX8_set ∈ WL := wl_of (tb_5 (List.mem_of_getElem? (i := 99) rfl)) rfl
theorem kN_X8_set : Cond.instanceMethod yX8_set ∈ WL := wl_of (tb_5 (List.mem_of_getElem? (i := 100) rfl)) rfl
theorem kV_X8_set : Cond.selects RX8 yX8_set yX8_set ∈ WL := wl_of (tb_5 (List.mem_of_getElem? (i := 101) rfl)) rfl
theorem kC_X8_set : Cond.code yX8_set cX8_set 4 (some .int) ∈ WL := wl_of (tb_5 (List.mem_of_getElem? (i := 102) rfl)) rfl
theorem kL_X8_135 : Cond.constantLong RX8 135 (3) ∈ WL := wl_of (tb_5 (List.mem_of_getElem? (i := 103) rfl)) rfl
theorem kL_X8_137 : Cond.constantLong RX8 137 (-9999) ∈ WL := wl_of (tb_5 (List.mem_of_getElem? (i := 104) rfl)) rfl
theorem kL_X8_139 : Cond.constantLong RX8 139 (9999) ∈ WL := wl_of (tb_5 (List.mem_of_getElem? (i := 105) rfl)) rfl
theorem kM_L_38 : Cond.methodLink RL 38 yX8_friends ∈ WL := wl_of (tb_5 (List.mem_of_getElem? (i := 106) rfl)) rfl
theorem kN_X8_friends : Cond.instanceMethod yX8_friends ∈ WL := wl_of (tb_5 (List.mem_of_getElem? (i := 107) rfl)) rfl
theorem kV_X8_friends : Cond.selects RX8 yX8_friends yX8_friends ∈ WL := wl_of (tb_5 (List.mem_of_getElem? (i := 108) rfl)) rfl
theorem kC_X8_friends : Cond.code yX8_friends cX8_friends 5 (some .int) ∈ WL := wl_of (tb_5 (List.mem_of_getElem? (i := 109) rfl)) rfl
theorem kM_X8_141 : Cond.methodLink RX8 141 yX8_areFriends ∈ WL := wl_of (tb_5 (List.mem_of_getElem? (i := 110) rfl)) rfl
theorem kN_X8_areFriends : Cond.instanceMethod yX8_areFriends ∈ WL := wl_of (tb_5 (List.mem_of_getElem? (i := 112) rfl)) rfl
theorem kC_X8_areFriends : Cond.code yX8_areFriends cX8_areFriends 3 (some .int) ∈ WL := wl_of (tb_5 (List.mem_of_getElem? (i := 113) rfl)) rfl
theorem kM_X8_144 : Cond.methodLink RX8 144 yX8_joins ∈ WL := wl_of (tb_5 (List.mem_of_getElem? (i := 114) rfl)) rfl
theorem kN_X8_joins : Cond.instanceMethod yX8_joins ∈ WL := wl_of (tb_5 (List.mem_of_getElem? (i := 116) rfl)) rfl
theorem kC_X8_joins : Cond.code yX8_joins cX8_joins 4 none ∈ WL := wl_of (tb_5 (List.mem_of_getElem? (i := 117) rfl)) rfl
theorem kM_L_42 : Cond.methodLink RL 42 yX8_rule ∈ WL := wl_of (tb_5 (List.mem_of_getElem? (i := 118) rfl)) rfl
theorem kN_X8_rule : Cond.instanceMethod yX8_rule ∈ WL := wl_of (tb_5 (List.mem_of_getElem? (i := 119) rfl)) rfl
theorem kV_X8_rule : Cond.selects RX8 yX8_rule yX8_rule ∈ WL := wl_of (tb_5 (List.mem_of_getElem? (i := 120) rfl)) rfl
theorem kC_X8_rule : Cond.code yX8_rule cX8_rule 3 (some .int) ∈ WL := wl_of (tb_5 (List.mem_of_getElem? (i := 121) rfl)) rfl
theorem kL_X8_147 : Cond.constantLong RX8 147 (2) ∈ WL := wl_of (tb_5 (List.mem_of_getElem? (i := 122) rfl)) rfl
theorem kL_X8_149 : Cond.constantLong RX8 149 (9) ∈ WL := wl_of (tb_5 (List.mem_of_getElem? (i := 123) rfl)) rfl
theorem kL_X8_151 : Cond.constantLong RX8 151 (100) ∈ WL := wl_of (tb_5 (List.mem_of_getElem? (i := 124) rfl)) rfl
theorem kM_L_47 : Cond.methodLink RL 47 yX8_deal ∈ WL := wl_of (tb_5 (List.mem_of_getElem? (i := 125) rfl)) rfl
theorem kN_X8_deal : Cond.instanceMethod yX8_deal ∈ WL := wl_of (tb_5 (List.mem_of_getElem? (i := 126) rfl)) rfl
theorem kV_X8_deal : Cond.selects RX8 yX8_deal yX8_deal ∈ WL := wl_of (tb_5 (List.mem_of_getElem? (i := 127) rfl)) rfl
theorem kC_X8_deal : Cond.code yX8_deal cX8_deal 5 (some .int) ∈ WL := wl_of (tb_5 (List.mem_of_getElem? (i := 128) rfl)) rfl
theorem kL_X8_153 : Cond.constantLong RX8 153 (10) ∈ WL := wl_of (tb_5 (List.mem_of_getElem? (i := 129) rfl)) rfl
theorem kM_X8_155 : Cond.methodLink RX8 155 yX8_drawn ∈ WL := wl_of (tb_5 (List.mem_of_getElem? (i := 130) rfl)) rfl
theorem kN_X8_drawn : Cond.instanceMethod yX8_drawn ∈ WL := wl_of (tb_5 (List.mem_of_getElem? (i := 132) rfl)) rfl
theorem kC_X8_drawn : Cond.code yX8_drawn cX8_drawn 1 (some .int) ∈ WL := wl_of (tb_5 (List.mem_of_getElem? (i := 133) rfl)) rfl
theorem kK_X8_69 : Cond.constant RX8 69 (1103515245) ∈ WL := wl_of (tb_5 (List.mem_of_getElem? (i := 134) rfl)) rfl
theorem kM_L_51 : Cond.methodLink RL 51 yX8_seed ∈ WL := wl_of (tb_5 (List.mem_of_getElem? (i := 135) rfl)) rfl
theorem kN_X8_seed : Cond.instanceMethod yX8_seed ∈ WL := wl_of (tb_5 (List.mem_of_getElem? (i := 136) rfl)) rfl
theorem kV_X8_seed : Cond.selects RX8 yX8_seed yX8_seed ∈ WL := wl_of (tb_5 (List.mem_of_getElem? (i := 137) rfl)) rfl
theorem kC_X8_seed : Cond.code yX8_seed cX8_seed 2 (some .int) ∈ WL := wl_of (tb_5 (List.mem_of_getElem? (i := 138) rfl)) rfl
theorem kM_L_55 : Cond.methodLink RL 55 yX8_town ∈ WL := wl_of (tb_5 (List.mem_of_getElem? (i := 139) rfl)) rfl
theorem kN_X8_town : Cond.instanceMethod yX8_town ∈ WL := wl_of (tb_5 (List.mem_of_getElem? (i := 140) rfl)) rfl
theorem kV_X8_town : Cond.selects RX8 yX8_town yX8_town ∈ WL := wl_of (tb_5 (List.mem_of_getElem? (i := 141) rfl)) rfl
theorem kC_X8_town : Cond.code yX8_town cX8_town 2 (some .int) ∈ WL := wl_of (tb_5 (List.mem_of_getElem? (i := 142) rfl)) rfl
theorem kM_X8_158 : Cond.methodLink RX8 158 yX8_allOff ∈ WL := wl_of (tb_5 (List.mem_of_getElem? (i := 143) rfl)) rfl
theorem kN_X8_allOff : Cond.instanceMethod yX8_allOff ∈ WL := wl_of (tb_5 (List.mem_of_getElem? (i := 145) rfl)) rfl
theorem kC_X8_allOff : Cond.code yX8_allOff cX8_allOff 3 (some .int) ∈ WL := wl_of (tb_5 (List.mem_of_getElem? (i := 146) rfl)) rfl
theorem kM_X8_161 : Cond.methodLink RX8 161 yX8_disorder ∈ WL := wl_of (tb_5 (List.mem_of_getElem? (i := 147) rfl)) rfl
theorem kN_X8_disorder : Cond.instanceMethod yX8_disorder ∈ WL := wl_of (tb_5 (List.mem_of_getElem? (i := 149) rfl)) rfl
theorem kC_X8_disorder : Cond.code yX8_disorder cX8_disorder 4 (some .int) ∈ WL := wl_of (tb_5 (List.mem_of_getElem? (i := 150) rfl)) rfl
theorem kM_X8_164 : Cond.methodLink RX8 164 yX8_oddOnes ∈ WL := wl_of (tb_5 (List.mem_of_getElem? (i := 151) rfl)) rfl
theorem kN_X8_oddOnes : Cond.instanceMethod yX8_oddOnes ∈ WL := wl_of (tb_5 (List.mem_of_getElem? (i := 153) rfl)) rfl
theorem kC_X8_oddOnes : Cond.code yX8_oddOnes cX8_oddOnes 3 (some .int) ∈ WL := wl_of (tb_5 (List.mem_of_getElem? (i := 154) rfl)) rfl
theorem kM_L_60 : Cond.methodLink RL 60 yX8_ways ∈ WL := wl_of (tb_5 (List.mem_of_getElem? (i := 155) rfl)) rfl
theorem kN_X8_ways : Cond.instanceMethod yX8_ways ∈ WL := wl_of (tb_5 (List.mem_of_getElem? (i := 156) rfl)) rfl
theorem kV_X8_ways : Cond.selects RX8 yX8_ways yX8_ways ∈ WL := wl_of (tb_5 (List.mem_of_getElem? (i := 157) rfl)) rfl
theorem kC_X8_ways : Cond.code yX8_ways cX8_ways 3 (some .int) ∈ WL := wl_of (tb_5 (List.mem_of_getElem? (i := 158) rfl)) rfl
theorem kM_X8_170 : Cond.methodLink RX8 170 yX8_isWay ∈ WL := wl_of (tb_5 (List.mem_of_getElem? (i := 159) rfl)) rfl
theorem kN_X8_isWay : Cond.instanceMethod yX8_isWay ∈ WL := wl_of (tb_5 (List.mem_of_getElem? (i := 161) rfl)) rfl
theorem kC_X8_isWay : Cond.code yX8_isWay cX8_isWay 2 (some .boolean) ∈ WL := wl_of (tb_5 (List.mem_of_getElem? (i := 162) rfl)) rfl
theorem kM_X8_167 : Cond.methodLink RX8 167 yX8_fixedOnes ∈ WL := wl_of (tb_5 (List.mem_of_getElem? (i := 163) rfl)) rfl
theorem kN_X8_fixedOnes : Cond.instanceMethod yX8_fixedOnes ∈ WL := wl_of (tb_5 (List.mem_of_getElem? (i := 165) rfl)) rfl
theorem kC_X8_fixedOnes : Cond.code yX8_fixedOnes cX8_fixedOnes 3 (some .int) ∈ WL := wl_of (tb_5 (List.mem_of_getElem? (i := 166) rfl)) rfl
theorem kM_L_64 : Cond.methodLink RL 64 yX8_minds ∈ WL := wl_of (tb_5 (List.mem_of_getElem? (i := 167) rfl)) rfl
theorem kN_X8_minds : Cond.instanceMethod yX8_minds ∈ WL := wl_of (tb_5 (List.mem_of_getElem? (i := 168) rfl)) rfl
theorem kV_X8_minds : Cond.selects RX8 yX8_minds yX8_minds ∈ WL := wl_of (tb_5 (List.mem_of_getElem? (i := 169) rfl)) rfl
theorem kC_X8_minds : Cond.code yX8_minds cX8_minds 5 (some .int) ∈ WL := wl_of (tb_5 (List.mem_of_getElem? (i := 170) rfl)) rfl
theorem kM_X8_176 : Cond.methodLink RX8 176 yX8_cost ∈ WL := wl_of (tb_5 (List.mem_of_getElem? (i := 171) rfl)) rfl
theorem kN_X8_cost : Cond.instanceMethod yX8_cost ∈ WL := wl_of (tb_5 (List.mem_of_getElem? (i := 173) rfl)) rfl
theorem kC_X8_cost : Cond.code yX8_cost cX8_cost 3 (some .int) ∈ WL := wl_of (tb_5 (List.mem_of_getElem? (i := 174) rfl)) rfl
theorem kM_X8_173 : Cond.methodLink RX8 173 yX8_price ∈ WL := wl_of (tb_5 (List.mem_of_getElem? (i := 175) rfl)) rfl
theorem kN_X8_price : Cond.instanceMethod yX8_price ∈ WL := wl_of (tb_5 (List.mem_of_getElem? (i := 177) rfl)) rfl
theorem kC_X8_price : Cond.code yX8_price cX8_price 4 (some .int) ∈ WL := wl_of (tb_5 (List.mem_of_getElem? (i := 178) rfl)) rfl
theorem kM_X8_179 : Cond.methodLink RX8 179 yX8_orNone ∈ WL := wl_of (tb_5 (List.mem_of_getElem? (i := 179) rfl)) rfl
theorem kS_X8_orNone : Cond.static yX8_orNone ∈ WL := wl_of (tb_5 (List.mem_of_getElem? (i := 180) rfl)) rfl
theorem kC_X8_orNone : Cond.code yX8_orNone cX8_orNone 1 (some .int) ∈ WL := wl_of (tb_5 (List.mem_of_getElem? (i := 181) rfl)) rfl
theorem kK_X8_64 : Cond.constant RX8 64 (-1000000005) ∈ WL := wl_of (tb_5 (List.mem_of_getElem? (i := 182) rfl)) rfl
theorem kM_L_68 : Cond.methodLink RL 68 yX8_freedom ∈ WL := wl_of (tb_5 (List.mem_of_getElem? (i := 183) rfl)) rfl
theorem kN_X8_freedom : Cond.instanceMethod yX8_freedom ∈ WL := wl_of (tb_5 (List.mem_of_getElem? (i := 184) rfl)) rfl
theorem kV_X8_freedom : Cond.selects RX8 yX8_freedom yX8_freedom ∈ WL := wl_of (tb_5 (List.mem_of_getElem? (i := 185) rfl)) rfl
theorem kC_X8_freedom : Cond.code yX8_freedom cX8_freedom 4 (some .int) ∈ WL := wl_of (tb_5 (List.mem_of_getElem? (i := 186) rfl)) rfl
theorem kM_L_72 : Cond.methodLink RL 72 yX8_together ∈ WL := wl_of (tb_5 (List.mem_of_getElem? (i := 187) rfl)) rfl
theorem kN_X8_together : Cond.instanceMethod yX8_together ∈ WL := wl_of (tb_5 (List.mem_of_getElem? (i := 188) rfl)) rfl
theorem kV_X8_together : Cond.selects RX8 yX8_together yX8_together ∈ WL := wl_of (tb_5 (List.mem_of_getElem? (i := 189) rfl)) rfl
theorem kC_X8_together : Cond.code yX8_together cX8_together 5 (some .int) ∈ WL := wl_of (tb_5 (List.mem_of_getElem? (i := 190) rfl)) rfl
theorem kK_X8_182 : Cond.constant RX8 182 (-1000000002) ∈ WL := wl_of (tb_5 (List.mem_of_getElem? (i := 191) rfl)) rfl
theorem kM_L_76 : Cond.methodLink RL 76 yX8_best ∈ WL := wl_of (tb_5 (List.mem_of_getElem? (i := 192) rfl)) rfl
theorem kN_X8_best : Cond.instanceMethod yX8_best ∈ WL := wl_of (tb_5 (List.mem_of_getElem? (i := 193) rfl)) rfl
theorem kV_X8_best : Cond.selects RX8 yX8_best yX8_best ∈ WL := wl_of (tb_5 (List.mem_of_getElem? (i := 194) rfl)) rfl
theorem kC_X8_best : Cond.code yX8_best cX8_best 8 (some .int) ∈ WL := wl_of (tb_5 (List.mem_of_getElem? (i := 195) rfl)) rfl
theorem kM_X8_183 : Cond.methodLink RX8 183 yX8_ways ∈ WL := wl_of (tb_5 (List.mem_of_getElem? (i := 196) rfl)) rfl
theorem kM_L_80 : Cond.methodLink RL 80 yX8_years ∈ WL := wl_of (tb_5 (List.mem_of_getElem? (i := 197) rfl)) rfl
theorem kN_X8_years : Cond.instanceMethod yX8_years ∈ WL := wl_of (tb_5 (List.mem_of_getElem? (i := 198) rfl)) rfl
theorem kV_X8_years : Cond.selects RX8 yX8_years yX8_years ∈ WL := wl_of (tb_5 (List.mem_of_getElem? (i := 199) rfl)) rfl
theorem kC_X8_years : Cond.code yX8_years cX8_years 4 (some .int) ∈ WL := wl_of (tb_5 (List.mem_of_getElem? (i := 200) rfl)) rfl
theorem kM_X8_203 : Cond.methodLink RX8 203 yX8_goesOn ∈ WL := wl_of (tb_5 (List.mem_of_getElem? (i := 201) rfl)) rfl
theorem kN_X8_goesOn : Cond.instanceMethod yX8_goesOn ∈ WL := wl_of (tb_5 (List.mem_of_getElem? (i := 203) rfl)) rfl
theorem kC_X8_goesOn : Cond.code yX8_goesOn cX8_goesOn 3 none ∈ WL := wl_of (tb_5 (List.mem_of_getElem? (i := 204) rfl)) rfl
theorem kM_X8_189 : Cond.methodLink RX8 189 yX8_pays ∈ WL := wl_of (tb_5 (List.mem_of_getElem? (i := 205) rfl)) rfl
theorem kN_X8_pays : Cond.instanceMethod yX8_pays ∈ WL := wl_of (tb_5 (List.mem_of_getElem? (i := 207) rfl)) rfl
theorem kC_X8_pays : Cond.code yX8_pays cX8_pays 3 none ∈ WL := wl_of (tb_5 (List.mem_of_getElem? (i := 208) rfl)) rfl
theorem kM_X8_193 : Cond.methodLink RX8 193 yX8_lookedAt ∈ WL := wl_of (tb_5 (List.mem_of_getElem? (i := 209) rfl)) rfl
theorem kN_X8_lookedAt : Cond.instanceMethod yX8_lookedAt ∈ WL := wl_of (tb_5 (List.mem_of_getElem? (i := 211) rfl)) rfl
theorem kC_X8_lookedAt : Cond.code yX8_lookedAt cX8_lookedAt 1 (some .int) ∈ WL := wl_of (tb_5 (List.mem_of_getElem? (i := 212) rfl)) rfl
theorem kM_X8_186 : Cond.methodLink RX8 186 yX8_worst ∈ WL := wl_of (tb_5 (List.mem_of_getElem? (i := 213) rfl)) rfl
theorem kN_X8_worst : Cond.instanceMethod yX8_worst ∈ WL := wl_of (tb_5 (List.mem_of_getElem? (i := 215) rfl)) rfl
theorem kC_X8_worst : Cond.code yX8_worst cX8_worst 3 (some .int) ∈ WL := wl_of (tb_5 (List.mem_of_getElem? (i := 216) rfl)) rfl
theorem kM_X8_196 : Cond.methodLink RX8 196 yX8_around ∈ WL := wl_of (tb_5 (List.mem_of_getElem? (i := 217) rfl)) rfl
theorem kN_X8_around : Cond.instanceMethod yX8_around ∈ WL := wl_of (tb_5 (List.mem_of_getElem? (i := 219) rfl)) rfl
theorem kC_X8_around : Cond.code yX8_around cX8_around 5 (some .int) ∈ WL := wl_of (tb_5 (List.mem_of_getElem? (i := 220) rfl)) rfl
theorem kM_X8_199 : Cond.methodLink RX8 199 yX8_changes ∈ WL := wl_of (tb_5 (List.mem_of_getElem? (i := 221) rfl)) rfl
theorem kN_X8_changes : Cond.instanceMethod yX8_changes ∈ WL := wl_of (tb_5 (List.mem_of_getElem? (i := 223) rfl)) rfl
theorem kC_X8_changes : Cond.code yX8_changes cX8_changes 2 none ∈ WL := wl_of (tb_5 (List.mem_of_getElem? (i := 224) rfl)) rfl
theorem kM_L_84 : Cond.methodLink RL 84 yX8_behind ∈ WL := wl_of (tb_5 (List.mem_of_getElem? (i := 225) rfl)) rfl
theorem kN_X8_behind : Cond.instanceMethod yX8_behind ∈ WL := wl_of (tb_5 (List.mem_of_getElem? (i := 226) rfl)) rfl
theorem kV_X8_behind : Cond.selects RX8 yX8_behind yX8_behind ∈ WL := wl_of (tb_5 (List.mem_of_getElem? (i := 227) rfl)) rfl
theorem kC_X8_behind : Cond.code yX8_behind cX8_behind 4 (some .int) ∈ WL := wl_of (tb_5 (List.mem_of_getElem? (i := 228) rfl)) rfl
theorem kM_X8_206 : Cond.methodLink RX8 206 yX8_laysBy ∈ WL := wl_of (tb_5 (List.mem_of_getElem? (i := 229) rfl)) rfl
theorem kN_X8_laysBy : Cond.instanceMethod yX8_laysBy ∈ WL := wl_of (tb_5 (List.mem_of_getElem? (i := 231) rfl)) rfl
theorem kC_X8_laysBy : Cond.code yX8_laysBy cX8_laysBy 2 none ∈ WL := wl_of (tb_5 (List.mem_of_getElem? (i := 232) rfl)) rfl
theorem kM_X8_209 : Cond.methodLink RX8 209 yX8_goesOnMany ∈ WL := wl_of (tb_5 (List.mem_of_getElem? (i := 233) rfl)) rfl
theorem kN_X8_goesOnMany : Cond.instanceMethod yX8_goesOnMany ∈ WL := wl_of (tb_5 (List.mem_of_getElem? (i := 235) rfl)) rfl
theorem kC_X8_goesOnMany : Cond.code yX8_goesOnMany cX8_goesOnMany 3 none ∈ WL := wl_of (tb_5 (List.mem_of_getElem? (i := 236) rfl)) rfl
theorem kM_X8_212 : Cond.methodLink RX8 212 yX8_laysBack ∈ WL := wl_of (tb_5 (List.mem_of_getElem? (i := 237) rfl)) rfl
theorem kN_X8_laysBack : Cond.instanceMethod yX8_laysBack ∈ WL := wl_of (tb_5 (List.mem_of_getElem? (i := 239) rfl)) rfl
theorem kC_X8_laysBack : Cond.code yX8_laysBack cX8_laysBack 2 none ∈ WL := wl_of (tb_6 (List.mem_of_getElem? (i := 0) rfl)) rfl
theorem kM_L_88 : Cond.methodLink RL 88 yX8_settles ∈ WL := wl_of (tb_6 (List.mem_of_getElem? (i := 1) rfl)) rfl
theorem kN_X8_settles : Cond.instanceMethod yX8_settles ∈ WL := wl_of (tb_6 (List.mem_of_getElem? (i := 2) rfl)) rfl
theorem kV_X8_settles : Cond.selects RX8 yX8_settles yX8_settles ∈ WL := wl_of (tb_6 (List.mem_of_getElem? (i := 3) rfl)) rfl
theorem kC_X8_settles : Cond.code yX8_settles cX8_settles 3 (some .int) ∈ WL := wl_of (tb_6 (List.mem_of_getElem? (i := 4) rfl)) rfl
theorem kM_L_92 : Cond.methodLink RL 92 yX8_won ∈ WL := wl_of (tb_6 (List.mem_of_getElem? (i := 5) rfl)) rfl
theorem kN_X8_won : Cond.instanceMethod yX8_won ∈ WL := wl_of (tb_6 (List.mem_of_getElem? (i := 6) rfl)) rfl
theorem kV_X8_won : Cond.selects RX8 yX8_won yX8_won ∈ WL := wl_of (tb_6 (List.mem_of_getElem? (i := 7) rfl)) rfl
theorem kC_X8_won : Cond.code yX8_won cX8_won 7 (some .int) ∈ WL := wl_of (tb_6 (List.mem_of_getElem? (i := 8) rfl)) rfl
theorem kL_X8_215 : Cond.constantLong RX8 215 (60) ∈ WL := wl_of (tb_6 (List.mem_of_getElem? (i := 9) rfl)) rfl
theorem kM_L_100 : Cond.methodLink RL 100 yX8_fee ∈ WL := wl_of (tb_6 (List.mem_of_getElem? (i := 10) rfl)) rfl
theorem kN_X8_fee : Cond.instanceMethod yX8_fee ∈ WL := wl_of (tb_6 (List.mem_of_getElem? (i := 11) rfl)) rfl
theorem kV_X8_fee : Cond.selects RX8 yX8_fee yX8_fee ∈ WL := wl_of (tb_6 (List.mem_of_getElem? (i := 12) rfl)) rfl
theorem kC_X8_fee : Cond.code yX8_fee cX8_fee 2 (some .int) ∈ WL := wl_of (tb_6 (List.mem_of_getElem? (i := 13) rfl)) rfl
theorem kM_L_104 : Cond.methodLink RL 104 yX8_fine ∈ WL := wl_of (tb_6 (List.mem_of_getElem? (i := 14) rfl)) rfl
theorem kN_X8_fine : Cond.instanceMethod yX8_fine ∈ WL := wl_of (tb_6 (List.mem_of_getElem? (i := 15) rfl)) rfl
theorem kV_X8_fine : Cond.selects RX8 yX8_fine yX8_fine ∈ WL := wl_of (tb_6 (List.mem_of_getElem? (i := 16) rfl)) rfl
theorem kC_X8_fine : Cond.code yX8_fine cX8_fine 3 (some .int) ∈ WL := wl_of (tb_6 (List.mem_of_getElem? (i := 17) rfl)) rfl
theorem kM_L_108 : Cond.methodLink RL 108 yX8_feed ∈ WL := wl_of (tb_6 (List.mem_of_getElem? (i := 18) rfl)) rfl
theorem kN_X8_feed : Cond.instanceMethod yX8_feed ∈ WL := wl_of (tb_6 (List.mem_of_getElem? (i := 19) rfl)) rfl
theorem kV_X8_feed : Cond.selects RX8 yX8_feed yX8_feed ∈ WL := wl_of (tb_6 (List.mem_of_getElem? (i := 20) rfl)) rfl
theorem kC_X8_feed : Cond.code yX8_feed cX8_feed 6 (some .int) ∈ WL := wl_of (tb_6 (List.mem_of_getElem? (i := 21) rfl)) rfl
theorem kM_L_112 : Cond.methodLink RL 112 yX8_trim ∈ WL := wl_of (tb_6 (List.mem_of_getElem? (i := 22) rfl)) rfl
theorem kN_X8_trim : Cond.instanceMethod yX8_trim ∈ WL := wl_of (tb_6 (List.mem_of_getElem? (i := 23) rfl)) rfl
theorem kV_X8_trim : Cond.selects RX8 yX8_trim yX8_trim ∈ WL := wl_of (tb_6 (List.mem_of_getElem? (i := 24) rfl)) rfl
theorem kC_X8_trim : Cond.code yX8_trim cX8_trim 2 (some .int) ∈ WL := wl_of (tb_6 (List.mem_of_getElem? (i := 25) rfl)) rfl
theorem kM_L_116 : Cond.methodLink RL 116 yX8_text ∈ WL := wl_of (tb_6 (List.mem_of_getElem? (i := 26) rfl)) rfl
theorem kN_X8_text : Cond.instanceMethod yX8_text ∈ WL := wl_of (tb_6 (List.mem_of_getElem? (i := 27) rfl)) rfl
theorem kV_X8_text : Cond.selects RX8 yX8_text yX8_text ∈ WL := wl_of (tb_6 (List.mem_of_getElem? (i := 28) rfl)) rfl
theorem kC_X8_text : Cond.code yX8_text cX8_text 3 (some .int) ∈ WL := wl_of (tb_6 (List.mem_of_getElem? (i := 29) rfl)) rfl
theorem kM_X8_305 : Cond.methodLink RX8 305 yX8_parse ∈ WL := wl_of (tb_6 (List.mem_of_getElem? (i := 30) rfl)) rfl
theorem kN_X8_parse : Cond.instanceMethod yX8_parse ∈ WL := wl_of (tb_6 (List.mem_of_getElem? (i := 32) rfl)) rfl
theorem kC_X8_parse : Cond.code yX8_parse cX8_parse 3 (some .int) ∈ WL := wl_of (tb_6 (List.mem_of_getElem? (i := 33) rfl)) rfl
theorem kM_X8_266 : Cond.methodLink RX8 266 yX8_nextToken ∈ WL := wl_of (tb_6 (List.mem_of_getElem? (i := 34) rfl)) rfl
theorem kN_X8_nextToken : Cond.instanceMethod yX8_nextToken ∈ WL := wl_of (tb_6 (List.mem_of_getElem? (i := 36) rfl)) rfl
theorem kC_X8_nextToken : Cond.code yX8_nextToken cX8_nextToken 3 none ∈ WL := wl_of (tb_6 (List.mem_of_getElem? (i := 37) rfl)) rfl
theorem kM_X8_238 : Cond.methodLink RX8 238 yX8_isLetter ∈ WL := wl_of (tb_6 (List.mem_of_getElem? (i := 38) rfl)) rfl
theorem kN_X8_isLetter : Cond.instanceMethod yX8_isLetter ∈ WL := wl_of (tb_6 (List.mem_of_getElem? (i := 40) rfl)) rfl
theorem kC_X8_isLetter : Cond.code yX8_isLetter cX8_isLetter 2 (some .boolean) ∈ WL := wl_of (tb_6 (List.mem_of_getElem? (i := 41) rfl)) rfl
theorem kL_X8_221 : Cond.constantLong RX8 221 (97) ∈ WL := wl_of (tb_6 (List.mem_of_getElem? (i := 42) rfl)) rfl
theorem kL_X8_223 : Cond.constantLong RX8 223 (122) ∈ WL := wl_of (tb_6 (List.mem_of_getElem? (i := 43) rfl)) rfl
theorem kM_X8_244 : Cond.methodLink RX8 244 yX8_isDigit ∈ WL := wl_of (tb_6 (List.mem_of_getElem? (i := 44) rfl)) rfl
theorem kN_X8_isDigit : Cond.instanceMethod yX8_isDigit ∈ WL := wl_of (tb_6 (List.mem_of_getElem? (i := 46) rfl)) rfl
theorem kC_X8_isDigit : Cond.code yX8_isDigit cX8_isDigit 2 (some .boolean) ∈ WL := wl_of (tb_6 (List.mem_of_getElem? (i := 47) rfl)) rfl
theorem kL_X8_225 : Cond.constantLong RX8 225 (48) ∈ WL := wl_of (tb_6 (List.mem_of_getElem? (i := 48) rfl)) rfl
theorem kL_X8_227 : Cond.constantLong RX8 227 (57) ∈ WL := wl_of (tb_6 (List.mem_of_getElem? (i := 49) rfl)) rfl
theorem kM_X8_302 : Cond.methodLink RX8 302 yX8_key ∈ WL := wl_of (tb_6 (List.mem_of_getElem? (i := 50) rfl)) rfl
theorem kN_X8_key : Cond.instanceMethod yX8_key ∈ WL := wl_of (tb_6 (List.mem_of_getElem? (i := 52) rfl)) rfl
theorem kC_X8_key : Cond.code yX8_key cX8_key 1 (some .int) ∈ WL := wl_of (tb_6 (List.mem_of_getElem? (i := 53) rfl)) rfl
theorem kM_X8_250 : Cond.methodLink RX8 250 yX8_isWordAt ∈ WL := wl_of (tb_6 (List.mem_of_getElem? (i := 54) rfl)) rfl
theorem kN_X8_isWordAt : Cond.instanceMethod yX8_isWordAt ∈ WL := wl_of (tb_6 (List.mem_of_getElem? (i := 56) rfl)) rfl
theorem kC_X8_isWordAt : Cond.code yX8_isWordAt cX8_isWordAt 6 (some .boolean) ∈ WL := wl_of (tb_6 (List.mem_of_getElem? (i := 57) rfl)) rfl
theorem kM_X8_296 : Cond.methodLink RX8 296 yX8_either ∈ WL := wl_of (tb_6 (List.mem_of_getElem? (i := 58) rfl)) rfl
theorem kN_X8_either : Cond.instanceMethod yX8_either ∈ WL := wl_of (tb_6 (List.mem_of_getElem? (i := 60) rfl)) rfl
theorem kC_X8_either : Cond.code yX8_either cX8_either 2 (some .boolean) ∈ WL := wl_of (tb_6 (List.mem_of_getElem? (i := 61) rfl)) rfl
theorem kM_X8_260 : Cond.methodLink RX8 260 yX8_both ∈ WL := wl_of (tb_6 (List.mem_of_getElem? (i := 62) rfl)) rfl
theorem kN_X8_both : Cond.instanceMethod yX8_both ∈ WL := wl_of (tb_6 (List.mem_of_getElem? (i := 64) rfl)) rfl
theorem kC_X8_both : Cond.code yX8_both cX8_both 2 (some .boolean) ∈ WL := wl_of (tb_6 (List.mem_of_getElem? (i := 65) rfl)) rfl
theorem kM_X8_272 : Cond.methodLink RX8 272 yX8_test ∈ WL := wl_of (tb_6 (List.mem_of_getElem? (i := 66) rfl)) rfl
theorem kN_X8_test : Cond.instanceMethod yX8_test ∈ WL := wl_of (tb_6 (List.mem_of_getElem? (i := 68) rfl)) rfl
theorem kC_X8_test : Cond.code yX8_test cX8_test 3 (some .boolean) ∈ WL := wl_of (tb_6 (List.mem_of_getElem? (i := 69) rfl)) rfl
theorem kM_X8_275 : Cond.methodLink RX8 275 yX8_sum ∈ WL := wl_of (tb_6 (List.mem_of_getElem? (i := 70) rfl)) rfl
theorem kN_X8_sum : Cond.instanceMethod yX8_sum ∈ WL := wl_of (tb_6 (List.mem_of_getElem? (i := 72) rfl)) rfl
theorem kC_X8_sum : Cond.code yX8_sum cX8_sum 3 (some .boolean) ∈ WL := wl_of (tb_6 (List.mem_of_getElem? (i := 73) rfl)) rfl
theorem kM_X8_278 : Cond.methodLink RX8 278 yX8_term ∈ WL := wl_of (tb_6 (List.mem_of_getElem? (i := 74) rfl)) rfl
theorem kN_X8_term : Cond.instanceMethod yX8_term ∈ WL := wl_of (tb_6 (List.mem_of_getElem? (i := 76) rfl)) rfl
theorem kC_X8_term : Cond.code yX8_term cX8_term 3 (some .boolean) ∈ WL := wl_of (tb_6 (List.mem_of_getElem? (i := 77) rfl)) rfl
theorem kM_X8_281 : Cond.methodLink RX8 281 yX8_part0 ∈ WL := wl_of (tb_6 (List.mem_of_getElem? (i := 78) rfl)) rfl
theorem kN_X8_part0 : Cond.instanceMethod yX8_part0 ∈ WL := wl_of (tb_6 (List.mem_of_getElem? (i := 80) rfl)) rfl
theorem kC_X8_part0 : Cond.code yX8_part0 cX8_part0 2 (some .boolean) ∈ WL := wl_of (tb_6 (List.mem_of_getElem? (i := 81) rfl)) rfl
theorem kM_X8_269 : Cond.methodLink RX8 269 yX8_step ∈ WL := wl_of (tb_6 (List.mem_of_getElem? (i := 82) rfl)) rfl
theorem kN_X8_step : Cond.instanceMethod yX8_step ∈ WL := wl_of (tb_6 (List.mem_of_getElem? (i := 84) rfl)) rfl
theorem kC_X8_step : Cond.code yX8_step cX8_step 3 none ∈ WL := wl_of (tb_6 (List.mem_of_getElem? (i := 85) rfl)) rfl
theorem kM_X8_287 : Cond.methodLink RX8 287 yX8_isName ∈ WL := wl_of (tb_6 (List.mem_of_getElem? (i := 86) rfl)) rfl
theorem kS_X8_isName : Cond.static yX8_isName ∈ WL := wl_of (tb_6 (List.mem_of_getElem? (i := 87) rfl)) rfl
theorem kC_X8_isName : Cond.code yX8_isName cX8_isName 2 (some .boolean) ∈ WL := wl_of (tb_6 (List.mem_of_getElem? (i := 88) rfl)) rfl
theorem kM_X8_263 : Cond.methodLink RX8 263 yX8_isSign ∈ WL := wl_of (tb_6 (List.mem_of_getElem? (i := 89) rfl)) rfl
theorem kN_X8_isSign : Cond.instanceMethod yX8_isSign ∈ WL := wl_of (tb_6 (List.mem_of_getElem? (i := 91) rfl)) rfl
theorem kC_X8_isSign : Cond.code yX8_isSign cX8_isSign 2 (some .boolean) ∈ WL := wl_of (tb_6 (List.mem_of_getElem? (i := 92) rfl)) rfl
theorem kM_L_120 : Cond.methodLink RL 120 yX8_textTold ∈ WL := wl_of (tb_6 (List.mem_of_getElem? (i := 93) rfl)) rfl
theorem kN_X8_textTold : Cond.instanceMethod yX8_textTold ∈ WL := wl_of (tb_6 (List.mem_of_getElem? (i := 94) rfl)) rfl
theorem kV_X8_textTold : Cond.selects RX8 yX8_textTold yX8_textTold ∈ WL := wl_of (tb_6 (List.mem_of_getElem? (i := 95) rfl)) rfl
theorem kC_X8_textTold : Cond.code yX8_textTold cX8_textTold 3 (some .int) ∈ WL := wl_of (tb_6 (List.mem_of_getElem? (i := 96) rfl)) rfl
theorem kM_X8_308 : Cond.methodLink RX8 308 yX8_isText ∈ WL := wl_of (tb_6 (List.mem_of_getElem? (i := 97) rfl)) rfl
theorem kN_X8_isText : Cond.instanceMethod yX8_isText ∈ WL := wl_of (tb_6 (List.mem_of_getElem? (i := 99) rfl)) rfl
theorem kC_X8_isText : Cond.code yX8_isText cX8_isText 2 (some .boolean) ∈ WL := wl_of (tb_6 (List.mem_of_getElem? (i := 100) rfl)) rfl
theorem kM_L_124 : Cond.methodLink RL 124 yX8_why ∈ WL := wl_of (tb_6 (List.mem_of_getElem? (i := 101) rfl)) rfl
theorem kN_X8_why : Cond.instanceMethod yX8_why ∈ WL := wl_of (tb_6 (List.mem_of_getElem? (i := 102) rfl)) rfl
theorem kV_X8_why : Cond.selects RX8 yX8_why yX8_why ∈ WL := wl_of (tb_6 (List.mem_of_getElem? (i := 103) rfl)) rfl
theorem kC_X8_why : Cond.code yX8_why cX8_why 2 (some .int) ∈ WL := wl_of (tb_6 (List.mem_of_getElem? (i := 104) rfl)) rfl
theorem kM_L_128 : Cond.methodLink RL 128 yX8_sheet ∈ WL := wl_of (tb_6 (List.mem_of_getElem? (i := 105) rfl)) rfl
theorem kN_X8_sheet : Cond.instanceMethod yX8_sheet ∈ WL := wl_of (tb_6 (List.mem_of_getElem? (i := 106) rfl)) rfl
theorem kV_X8_sheet : Cond.selects RX8 yX8_sheet yX8_sheet ∈ WL := wl_of (tb_6 (List.mem_of_getElem? (i := 107) rfl)) rfl
theorem kC_X8_sheet : Cond.code yX8_sheet cX8_sheet 5 (some .int) ∈ WL := wl_of (tb_6 (List.mem_of_getElem? (i := 108) rfl)) rfl
theorem kM_X8_314 : Cond.methodLink RX8 314 yX8_isSheet ∈ WL := wl_of (tb_6 (List.mem_of_getElem? (i := 109) rfl)) rfl
theorem kS_X8_isSheet : Cond.static yX8_isSheet ∈ WL := wl_of (tb_6 (List.mem_of_getElem? (i := 110) rfl)) rfl
theorem kC_X8_isSheet : Cond.code yX8_isSheet cX8_isSheet 1 (some .boolean) ∈ WL := wl_of (tb_6 (List.mem_of_getElem? (i := 111) rfl)) rfl
theorem kL_X8_317 : Cond.constantLong RX8 317 (-1) ∈ WL := wl_of (tb_6 (List.mem_of_getElem? (i := 112) rfl)) rfl
theorem kK_X8_319 : Cond.constant RX8 319 (-1000000014) ∈ WL := wl_of (tb_6 (List.mem_of_getElem? (i := 113) rfl)) rfl
theorem kM_L_132 : Cond.methodLink RL 132 yX8_mark ∈ WL := wl_of (tb_6 (List.mem_of_getElem? (i := 114) rfl)) rfl
theorem kN_X8_mark : Cond.instanceMethod yX8_mark ∈ WL := wl_of (tb_6 (List.mem_of_getElem? (i := 115) rfl)) rfl
theorem kV_X8_mark : Cond.selects RX8 yX8_mark yX8_mark ∈ WL := wl_of (tb_6 (List.mem_of_getElem? (i := 116) rfl)) rfl
theorem kC_X8_mark : Cond.code yX8_mark cX8_mark 4 (some .int) ∈ WL := wl_of (tb_6 (List.mem_of_getElem? (i := 117) rfl)) rfl
theorem kK_X8_320 : Cond.constant RX8 320 (-1000000011) ∈ WL := wl_of (tb_6 (List.mem_of_getElem? (i := 118) rfl)) rfl
theorem kK_X8_321 : Cond.constant RX8 321 (-1000000013) ∈ WL := wl_of (tb_6 (List.mem_of_getElem? (i := 119) rfl)) rfl
theorem kL_X8_322 : Cond.constantLong RX8 322 (-99999) ∈ WL := wl_of (tb_6 (List.mem_of_getElem? (i := 120) rfl)) rfl
theorem kL_X8_324 : Cond.constantLong RX8 324 (99999) ∈ WL := wl_of (tb_6 (List.mem_of_getElem? (i := 121) rfl)) rfl
theorem kM_L_136 : Cond.methodLink RL 136 yX8_pour ∈ WL := wl_of (tb_6 (List.mem_of_getElem? (i := 122) rfl)) rfl
theorem kN_X8_pour : Cond.instanceMethod yX8_pour ∈ WL := wl_of (tb_6 (List.mem_of_getElem? (i := 123) rfl)) rfl
theorem kV_X8_pour : Cond.selects RX8 yX8_pour yX8_pour ∈ WL := wl_of (tb_6 (List.mem_of_getElem? (i := 124) rfl)) rfl
theorem kC_X8_pour : Cond.code yX8_pour cX8_pour 6 (some .int) ∈ WL := wl_of (tb_6 (List.mem_of_getElem? (i := 125) rfl)) rfl
theorem kM_X8_326 : Cond.methodLink RX8 326 yX8_isFor ∈ WL := wl_of (tb_6 (List.mem_of_getElem? (i := 126) rfl)) rfl
theorem kS_X8_isFor : Cond.static yX8_isFor ∈ WL := wl_of (tb_6 (List.mem_of_getElem? (i := 127) rfl)) rfl
theorem kC_X8_isFor : Cond.code yX8_isFor cX8_isFor 1 (some .int) ∈ WL := wl_of (tb_6 (List.mem_of_getElem? (i := 128) rfl)) rfl
theorem kM_L_140 : Cond.methodLink RL 140 yX8_reads ∈ WL := wl_of (tb_6 (List.mem_of_getElem? (i := 129) rfl)) rfl
theorem kN_X8_reads : Cond.instanceMethod yX8_reads ∈ WL := wl_of (tb_6 (List.mem_of_getElem? (i := 130) rfl)) rfl
theorem kV_X8_reads : Cond.selects RX8 yX8_reads yX8_reads ∈ WL := wl_of (tb_6 (List.mem_of_getElem? (i := 131) rfl)) rfl
theorem kC_X8_reads : Cond.code yX8_reads cX8_reads 4 (some .int) ∈ WL := wl_of (tb_6 (List.mem_of_getElem? (i := 132) rfl)) rfl
theorem kM_L_96 : Cond.methodLink RL 96 yX8_lied ∈ WL := wl_of (tb_6 (List.mem_of_getElem? (i := 133) rfl)) rfl
theorem kN_X8_lied : Cond.instanceMethod yX8_lied ∈ WL := wl_of (tb_6 (List.mem_of_getElem? (i := 134) rfl)) rfl
theorem kV_X8_lied : Cond.selects RX8 yX8_lied yX8_lied ∈ WL := wl_of (tb_6 (List.mem_of_getElem? (i := 135) rfl)) rfl
theorem kC_X8_lied : Cond.code yX8_lied cX8_lied 10 (some .int) ∈ WL := wl_of (tb_6 (List.mem_of_getElem? (i := 136) rfl)) rfl
theorem kM_L_145 : Cond.methodLink RL 145 yX8_copy ∈ WL := wl_of (tb_6 (List.mem_of_getElem? (i := 137) rfl)) rfl
theorem kN_X8_copy : Cond.instanceMethod yX8_copy ∈ WL := wl_of (tb_6 (List.mem_of_getElem? (i := 138) rfl)) rfl
theorem kV_X8_copy : Cond.selects RX8 yX8_copy yX8_copy ∈ WL := wl_of (tb_6 (List.mem_of_getElem? (i := 139) rfl)) rfl
theorem kC_X8_copy : Cond.code yX8_copy cX8_copy 7 (some .int) ∈ WL := wl_of (tb_6 (List.mem_of_getElem? (i := 140) rfl)) rfl
theorem kM_L_149 : Cond.methodLink RL 149 yX8_lay ∈ WL := wl_of (tb_6 (List.mem_of_getElem? (i := 141) rfl)) rfl
theorem kN_X8_lay : Cond.instanceMethod yX8_lay ∈ WL := wl_of (tb_6 (List.mem_of_getElem? (i := 142) rfl)) rfl
theorem kV_X8_lay : Cond.selects RX8 yX8_lay yX8_lay ∈ WL := wl_of (tb_6 (List.mem_of_getElem? (i := 143) rfl)) rfl
theorem kC_X8_lay : Cond.code yX8_lay cX8_lay 7 (some .int) ∈ WL := wl_of (tb_6 (List.mem_of_getElem? (i := 144) rfl)) rfl
theorem kM_X8_331 : Cond.methodLink RX8 331 yX8_isSlot ∈ WL := wl_of (tb_6 (List.mem_of_getElem? (i := 145) rfl)) rfl
theorem kS_X8_isSlot : Cond.static yX8_isSlot ∈ WL := wl_of (tb_6 (List.mem_of_getElem? (i := 146) rfl)) rfl
theorem kC_X8_isSlot : Cond.code yX8_isSlot cX8_isSlot 1 (some .boolean) ∈ WL := wl_of (tb_6 (List.mem_of_getElem? (i := 147) rfl)) rfl
theorem kL_X8_329 : Cond.constantLong RX8 329 (4) ∈ WL := wl_of (tb_6 (List.mem_of_getElem? (i := 148) rfl)) rfl
theorem kM_L_153 : Cond.methodLink RL 153 yX8_ask ∈ WL := wl_of (tb_6 (List.mem_of_getElem? (i := 149) rfl)) rfl
theorem kN_X8_ask : Cond.instanceMethod yX8_ask ∈ WL := wl_of (tb_6 (List.mem_of_getElem? (i := 150) rfl)) rfl
theorem kV_X8_ask : Cond.selects RX8 yX8_ask yX8_ask ∈ WL := wl_of (tb_6 (List.mem_of_getElem? (i := 151) rfl)) rfl
theorem kC_X8_ask : Cond.code yX8_ask cX8_ask 3 (some .int) ∈ WL := wl_of (tb_6 (List.mem_of_getElem? (i := 152) rfl)) rfl
theorem kM_L_157 : Cond.methodLink RL 157 yX8_item ∈ WL := wl_of (tb_6 (List.mem_of_getElem? (i := 153) rfl)) rfl
theorem kN_X8_item : Cond.instanceMethod yX8_item ∈ WL := wl_of (tb_6 (List.mem_of_getElem? (i := 154) rfl)) rfl
theorem kV_X8_item : Cond.selects RX8 yX8_item yX8_item ∈ WL := wl_of (tb_6 (List.mem_of_getElem? (i := 155) rfl)) rfl
theorem kC_X8_item : Cond.code yX8_item cX8_item 4 (some .int) ∈ WL := wl_of (tb_6 (List.mem_of_getElem? (i := 156) rfl)) rfl
theorem kM_L_161 : Cond.methodLink RL 161 yX8_rest ∈ WL := wl_of (tb_6 (List.mem_of_getElem? (i := 157) rfl)) rfl
theorem kN_X8_rest : Cond.instanceMethod yX8_rest ∈ WL := wl_of (tb_6 (List.mem_of_getElem? (i := 158) rfl)) rfl
theorem kV_X8_rest : Cond.selects RX8 yX8_rest yX8_rest ∈ WL := wl_of (tb_6 (List.mem_of_getElem? (i := 159) rfl)) rfl
theorem kC_X8_rest : Cond.code yX8_rest cX8_rest 3 (some .int) ∈ WL := wl_of (tb_6 (List.mem_of_getElem? (i := 160) rfl)) rfl
theorem kM_L_165 : Cond.methodLink RL 165 yX8_tell ∈ WL := wl_of (tb_6 (List.mem_of_getElem? (i := 161) rfl)) rfl
theorem kN_X8_tell : Cond.instanceMethod yX8_tell ∈ WL := wl_of (tb_6 (List.mem_of_getElem? (i := 162) rfl)) rfl
theorem kV_X8_tell : Cond.selects RX8 yX8_tell yX8_tell ∈ WL := wl_of (tb_6 (List.mem_of_getElem? (i := 163) rfl)) rfl
theorem kC_X8_tell : Cond.code yX8_tell cX8_tell 2 (some .int) ∈ WL := wl_of (tb_6 (List.mem_of_getElem? (i := 164) rfl)) rfl
theorem kM_L_169 : Cond.methodLink RL 169 yX8_check ∈ WL := wl_of (tb_6 (List.mem_of_getElem? (i := 165) rfl)) rfl
theorem kN_X8_check : Cond.instanceMethod yX8_check ∈ WL := wl_of (tb_6 (List.mem_of_getElem? (i := 166) rfl)) rfl
theorem kV_X8_check : Cond.selects RX8 yX8_check yX8_check ∈ WL := wl_of (tb_6 (List.mem_of_getElem? (i := 167) rfl)) rfl
theorem kC_X8_check : Cond.code yX8_check cX8_check 5 (some .int) ∈ WL := wl_of (tb_6 (List.mem_of_getElem? (i := 168) rfl)) rfl
theorem kL_X8_337 : Cond.constantLong RX8 337 (30) ∈ WL := wl_of (tb_6 (List.mem_of_getElem? (i := 169) rfl)) rfl
theorem kM_X8_343 : Cond.methodLink RX8 343 yX8_setAside ∈ WL := wl_of (tb_6 (List.mem_of_getElem? (i := 170) rfl)) rfl
theorem kN_X8_setAside : Cond.instanceMethod yX8_setAside ∈ WL := wl_of (tb_6 (List.mem_of_getElem? (i := 172) rfl)) rfl
theorem kC_X8_setAside : Cond.code yX8_setAside cX8_setAside 4 none ∈ WL := wl_of (tb_6 (List.mem_of_getElem? (i := 173) rfl)) rfl
theorem kM_L_173 : Cond.methodLink RL 173 yX8_keep ∈ WL := wl_of (tb_6 (List.mem_of_getElem? (i := 174) rfl)) rfl
theorem kN_X8_keep : Cond.instanceMethod yX8_keep ∈ WL := wl_of (tb_6 (List.mem_of_getElem? (i := 175) rfl)) rfl
theorem kV_X8_keep : Cond.selects RX8 yX8_keep yX8_keep ∈ WL := wl_of (tb_6 (List.mem_of_getElem? (i := 176) rfl)) rfl
theorem kC_X8_keep : Cond.code yX8_keep cX8_keep 1 (some .int) ∈ WL := wl_of (tb_6 (List.mem_of_getElem? (i := 177) rfl)) rfl
theorem kM_L_177 : Cond.methodLink RL 177 yX8_back ∈ WL := wl_of (tb_6 (List.mem_of_getElem? (i := 178) rfl)) rfl
theorem kN_X8_back : Cond.instanceMethod yX8_back ∈ WL := wl_of (tb_6 (List.mem_of_getElem? (i := 179) rfl)) rfl
theorem kV_X8_back : Cond.selects RX8 yX8_back yX8_back ∈ WL := wl_of (tb_6 (List.mem_of_getElem? (i := 180) rfl)) rfl
theorem kC_X8_back : Cond.code yX8_back cX8_back 1 (some .int) ∈ WL := wl_of (tb_6 (List.mem_of_getElem? (i := 181) rfl)) rfl
theorem kM_L_181 : Cond.methodLink RL 181 yX8_count ∈ WL := wl_of (tb_6 (List.mem_of_getElem? (i := 182) rfl)) rfl
theorem kN_X8_count : Cond.instanceMethod yX8_count ∈ WL := wl_of (tb_6 (List.mem_of_getElem? (i := 183) rfl)) rfl
theorem kV_X8_count : Cond.selects RX8 yX8_count yX8_count ∈ WL := wl_of (tb_6 (List.mem_of_getElem? (i := 184) rfl)) rfl
theorem kC_X8_count : Cond.code yX8_count cX8_count 2 (some .int) ∈ WL := wl_of (tb_6 (List.mem_of_getElem? (i := 185) rfl)) rfl
theorem kF_J0_9 : Cond.fieldLink RJ0 9 "java/lang/String" "value" "[B" ∈ WL := wl_of (tb_6 (List.mem_of_getElem? (i := 186) rfl)) rfl
theorem kF_J0_15 : Cond.fieldLink RJ0 15 "java/lang/String" "coder" "B" ∈ WL := wl_of (tb_6 (List.mem_of_getElem? (i := 187) rfl)) rfl
theorem kV_X7_isNobody : Cond.selects RX7 yX7_isNobody yX7_isNobody ∈ WL := wl_of (tb_0 (List.mem_of_getElem? (i := 0) rfl)) rfl
theorem kV_X7_setMind : Cond.selects RX7 yX7_setMind yX7_setMind ∈ WL := wl_of (tb_0 (List.mem_of_getElem? (i := 1) rfl)) rfl
theorem kV_X7_setPrice : Cond.selects RX7 yX7_setPrice yX7_setPrice ∈ WL := wl_of (tb_0 (List.mem_of_getElem? (i := 2) rfl)) rfl
theorem kV_X7_setPurse : Cond.selects RX7 yX7_setPurse yX7_setPurse ∈ WL := wl_of (tb_0 (List.mem_of_getElem? (i := 3) rfl)) rfl
theorem kV_X6_payDues : Cond.selects RX6 yX6_payDues yX6_payDues ∈ WL := wl_of (tb_0 (List.mem_of_getElem? (i := 4) rfl)) rfl
theorem kV_X6_pay : Cond.selects RX6 yX6_pay yX6_pay ∈ WL := wl_of (tb_0 (List.mem_of_getElem? (i := 5) rfl)) rfl
theorem kV_X6_lookedAt : Cond.selects RX6 yX6_lookedAt yX6_lookedAt ∈ WL := wl_of (tb_0 (List.mem_of_getElem? (i := 6) rfl)) rfl
theorem kV_X6_worst : Cond.selects RX6 yX6_worst yX6_worst ∈ WL := wl_of (tb_0 (List.mem_of_getElem? (i := 7) rfl)) rfl
theorem kV_X6_persuade : Cond.selects RX6 yX6_persuade yX6_persuade ∈ WL := wl_of (tb_0 (List.mem_of_getElem? (i := 8) rfl)) rfl
theorem kV_X6_offOfAll : Cond.selects RX6 yX6_offOfAll yX6_offOfAll ∈ WL := wl_of (tb_0 (List.mem_of_getElem? (i := 9) rfl)) rfl
theorem kV_X6_haveWhim : Cond.selects RX6 yX6_haveWhim yX6_haveWhim ∈ WL := wl_of (tb_0 (List.mem_of_getElem? (i := 10) rfl)) rfl
theorem kV_X7_differences : Cond.selects RX7 yX7_differences yX7_differences ∈ WL := wl_of (tb_0 (List.mem_of_getElem? (i := 11) rfl)) rfl
theorem kV_X3_next : Cond.selects RX3 yX3_next yX3_next ∈ WL := wl_of (tb_0 (List.mem_of_getElem? (i := 12) rfl)) rfl
theorem kV_X3_sortAt : Cond.selects RX3 yX3_sortAt yX3_sortAt ∈ WL := wl_of (tb_0 (List.mem_of_getElem? (i := 13) rfl)) rfl
theorem kV_X3_keyHere : Cond.selects RX3 yX3_keyHere yX3_keyHere ∈ WL := wl_of (tb_0 (List.mem_of_getElem? (i := 14) rfl)) rfl
theorem kV_X3_isHere : Cond.selects RX3 yX3_isHere yX3_isHere ∈ WL := wl_of (tb_0 (List.mem_of_getElem? (i := 15) rfl)) rfl
theorem kV_X3_level : Cond.selects RX3 yX3_level yX3_level ∈ WL := wl_of (tb_0 (List.mem_of_getElem? (i := 16) rfl)) rfl
theorem kV_X3_piece : Cond.selects RX3 yX3_piece yX3_piece ∈ WL := wl_of (tb_0 (List.mem_of_getElem? (i := 17) rfl)) rfl
theorem kV_X3_negated : Cond.selects RX3 yX3_negated yX3_negated ∈ WL := wl_of (tb_0 (List.mem_of_getElem? (i := 18) rfl)) rfl
theorem kV_X3_put : Cond.selects RX3 yX3_put yX3_put ∈ WL := wl_of (tb_0 (List.mem_of_getElem? (i := 19) rfl)) rfl
theorem kV_X3_enclosed : Cond.selects RX3 yX3_enclosed yX3_enclosed ∈ WL := wl_of (tb_0 (List.mem_of_getElem? (i := 20) rfl)) rfl
theorem kV_X3_number : Cond.selects RX3 yX3_number yX3_number ∈ WL := wl_of (tb_0 (List.mem_of_getElem? (i := 21) rfl)) rfl
theorem kV_X3_name : Cond.selects RX3 yX3_name yX3_name ∈ WL := wl_of (tb_0 (List.mem_of_getElem? (i := 22) rfl)) rfl
theorem kV_X3_joinsHere : Cond.selects RX3 yX3_joinsHere yX3_joinsHere ∈ WL := wl_of (tb_0 (List.mem_of_getElem? (i := 23) rfl)) rfl
theorem kV_X8_comes : Cond.selects RX8 yX8_comes yX8_comes ∈ WL := wl_of (tb_0 (List.mem_of_getElem? (i := 24) rfl)) rfl
theorem kV_X8_sets : Cond.selects RX8 yX8_sets yX8_sets ∈ WL := wl_of (tb_0 (List.mem_of_getElem? (i := 25) rfl)) rfl
theorem kV_X8_isOne : Cond.selects RX8 yX8_isOne yX8_isOne ∈ WL := wl_of (tb_0 (List.mem_of_getElem? (i := 26) rfl)) rfl
theorem kV_X8_of : Cond.selects RX8 yX8_of yX8_of ∈ WL := wl_of (tb_0 (List.mem_of_getElem? (i := 27) rfl)) rfl
theorem kV_X8_offOf : Cond.selects RX8 yX8_offOf yX8_offOf ∈ WL := wl_of (tb_0 (List.mem_of_getElem? (i := 28) rfl)) rfl
theorem kV_X8_forNow : Cond.selects RX8 yX8_forNow yX8_forNow ∈ WL := wl_of (tb_0 (List.mem_of_getElem? (i := 29) rfl)) rfl
theorem kV_X8_offBy : Cond.selects RX8 yX8_offBy yX8_offBy ∈ WL := wl_of (tb_0 (List.mem_of_getElem? (i := 30) rfl)) rfl
theorem kV_X8_dues : Cond.selects RX8 yX8_dues yX8_dues ∈ WL := wl_of (tb_0 (List.mem_of_getElem? (i := 31) rfl)) rfl
theorem kV_X8_counts : Cond.selects RX8 yX8_counts yX8_counts ∈ WL := wl_of (tb_0 (List.mem_of_getElem? (i := 32) rfl)) rfl
theorem kV_X8_textAt : Cond.selects RX8 yX8_textAt yX8_textAt ∈ WL := wl_of (tb_0 (List.mem_of_getElem? (i := 33) rfl)) rfl
theorem kV_X8_worked : Cond.selects RX8 yX8_worked yX8_worked ∈ WL := wl_of (tb_0 (List.mem_of_getElem? (i := 34) rfl)) rfl
theorem kV_X8_asks : Cond.selects RX8 yX8_asks yX8_asks ∈ WL := wl_of (tb_0 (List.mem_of_getElem? (i := 35) rfl)) rfl
theorem kV_X8_worth : Cond.selects RX8 yX8_worth yX8_worth ∈ WL := wl_of (tb_0 (List.mem_of_getElem? (i := 36) rfl)) rfl
theorem kV_X8_becomes : Cond.selects RX8 yX8_becomes yX8_becomes ∈ WL := wl_of (tb_0 (List.mem_of_getElem? (i := 37) rfl)) rfl
theorem kV_X8_areFriends : Cond.selects RX8 yX8_areFriends yX8_areFriends ∈ WL := wl_of (tb_0 (List.mem_of_getElem? (i := 38) rfl)) rfl
theorem kV_X8_joins : Cond.selects RX8 yX8_joins yX8_joins ∈ WL := wl_of (tb_0 (List.mem_of_getElem? (i := 39) rfl)) rfl
theorem kV_X8_drawn : Cond.selects RX8 yX8_drawn yX8_drawn ∈ WL := wl_of (tb_0 (List.mem_of_getElem? (i := 40) rfl)) rfl
theorem kV_X8_allOff : Cond.selects RX8 yX8_allOff yX8_allOff ∈ WL := wl_of (tb_0 (List.mem_of_getElem? (i := 41) rfl)) rfl
theorem kV_X8_disorder : Cond.selects RX8 yX8_disorder yX8_disorder ∈ WL := wl_of (tb_0 (List.mem_of_getElem? (i := 42) rfl)) rfl
theorem kV_X8_oddOnes : Cond.selects RX8 yX8_oddOnes yX8_oddOnes ∈ WL := wl_of (tb_0 (List.mem_of_getElem? (i := 43) rfl)) rfl
theorem kV_X8_isWay : Cond.selects RX8 yX8_isWay yX8_isWay ∈ WL := wl_of (tb_0 (List.mem_of_getElem? (i := 44) rfl)) rfl
theorem kV_X8_fixedOnes : Cond.selects RX8 yX8_fixedOnes yX8_fixedOnes ∈ WL := wl_of (tb_0 (List.mem_of_getElem? (i := 45) rfl)) rfl
theorem kV_X8_cost : Cond.selects RX8 yX8_cost yX8_cost ∈ WL := wl_of (tb_0 (List.mem_of_getElem? (i := 46) rfl)) rfl
theorem kV_X8_price : Cond.selects RX8 yX8_price yX8_price ∈ WL := wl_of (tb_0 (List.mem_of_getElem? (i := 47) rfl)) rfl
theorem kV_X8_goesOn : Cond.selects RX8 yX8_goesOn yX8_goesOn ∈ WL := wl_of (tb_0 (List.mem_of_getElem? (i := 48) rfl)) rfl
theorem kV_X8_pays : Cond.selects RX8 yX8_pays yX8_pays ∈ WL := wl_of (tb_0 (List.mem_of_getElem? (i := 49) rfl)) rfl
theorem kV_X8_lookedAt : Cond.selects RX8 yX8_lookedAt yX8_lookedAt ∈ WL := wl_of (tb_0 (List.mem_of_getElem? (i := 50) rfl)) rfl
theorem kV_X8_worst : Cond.selects RX8 yX8_worst yX8_worst ∈ WL := wl_of (tb_0 (List.mem_of_getElem? (i := 51) rfl)) rfl
theorem kV_X8_around : Cond.selects RX8 yX8_around yX8_around ∈ WL := wl_of (tb_0 (List.mem_of_getElem? (i := 52) rfl)) rfl
theorem kV_X8_changes : Cond.selects RX8 yX8_changes yX8_changes ∈ WL := wl_of (tb_0 (List.mem_of_getElem? (i := 53) rfl)) rfl
theorem kV_X8_laysBy : Cond.selects RX8 yX8_laysBy yX8_laysBy ∈ WL := wl_of (tb_0 (List.mem_of_getElem? (i := 54) rfl)) rfl
theorem kV_X8_goesOnMany : Cond.selects RX8 yX8_goesOnMany yX8_goesOnMany ∈ WL := wl_of (tb_0 (List.mem_of_getElem? (i := 55) rfl)) rfl
theorem kV_X8_laysBack : Cond.selects RX8 yX8_laysBack yX8_laysBack ∈ WL := wl_of (tb_0 (List.mem_of_getElem? (i := 56) rfl)) rfl
theorem kV_X8_parse : Cond.selects RX8 yX8_parse yX8_parse ∈ WL := wl_of (tb_0 (List.mem_of_getElem? (i := 57) rfl)) rfl
theorem kV_X8_nextToken : Cond.selects RX8 yX8_nextToken yX8_nextToken ∈ WL := wl_of (tb_0 (List.mem_of_getElem? (i := 58) rfl)) rfl
theorem kV_X8_isLetter : Cond.selects RX8 yX8_isLetter yX8_isLetter ∈ WL := wl_of (tb_0 (List.mem_of_getElem? (i := 59) rfl)) rfl
theorem kV_X8_isDigit : Cond.selects RX8 yX8_isDigit yX8_isDigit ∈ WL := wl_of (tb_0 (List.mem_of_getElem? (i := 60) rfl)) rfl
theorem kV_X8_key : Cond.selects RX8 yX8_key yX8_key ∈ WL := wl_of (tb_0 (List.mem_of_getElem? (i := 61) rfl)) rfl
theorem kV_X8_isWordAt : Cond.selects RX8 yX8_isWordAt yX8_isWordAt ∈ WL := wl_of (tb_0 (List.mem_of_getElem? (i := 62) rfl)) rfl
theorem kV_X8_either : Cond.selects RX8 yX8_either yX8_either ∈ WL := wl_of (tb_0 (List.mem_of_getElem? (i := 63) rfl)) rfl
theorem kV_X8_both : Cond.selects RX8 yX8_both yX8_both ∈ WL := wl_of (tb_0 (List.mem_of_getElem? (i := 64) rfl)) rfl
theorem kV_X8_test : Cond.selects RX8 yX8_test yX8_test ∈ WL := wl_of (tb_0 (List.mem_of_getElem? (i := 65) rfl)) rfl
theorem kV_X8_sum : Cond.selects RX8 yX8_sum yX8_sum ∈ WL := wl_of (tb_0 (List.mem_of_getElem? (i := 66) rfl)) rfl
theorem kV_X8_term : Cond.selects RX8 yX8_term yX8_term ∈ WL := wl_of (tb_0 (List.mem_of_getElem? (i := 67) rfl)) rfl
theorem kV_X8_part0 : Cond.selects RX8 yX8_part0 yX8_part0 ∈ WL := wl_of (tb_0 (List.mem_of_getElem? (i := 68) rfl)) rfl
theorem kV_X8_step : Cond.selects RX8 yX8_step yX8_step ∈ WL := wl_of (tb_0 (List.mem_of_getElem? (i := 69) rfl)) rfl
theorem kV_X8_isSign : Cond.selects RX8 yX8_isSign yX8_isSign ∈ WL := wl_of (tb_0 (List.mem_of_getElem? (i := 70) rfl)) rfl
theorem kV_X8_isText : Cond.selects RX8 yX8_isText yX8_isText ∈ WL := wl_of (tb_0 (List.mem_of_getElem? (i := 71) rfl)) rfl
theorem kV_X8_setAside : Cond.selects RX8 yX8_setAside yX8_setAside ∈ WL := wl_of (tb_0 (List.mem_of_getElem? (i := 72) rfl)) rfl
theorem inW0 : ∀ w ∈ u_ws RX0 TX0 5, w ∈ WL := (show ∀ w ∈ ([Cond.laysFinal RX0 "HalfFriends$Book" "keys" "[I", Cond.laysFinal RX0 "HalfFriends$Book" "leaves" "[I", Cond.laysFinal RX0 "HalfFriends$Book" "lengths" "[I", Cond.laysFinal RX0 "HalfFriends$Book" "steps" "[[I", Cond.laysFinal RX0 "HalfFriends$Book" "stack" "[I"] : List Cond), w ∈ WL from List.forall_mem_cons.mpr ⟨kY_X0_keys, List.forall_mem_cons.mpr ⟨kY_X0_leaves, List.forall_mem_cons.mpr ⟨kY_X0_lengths, List.forall_mem_cons.mpr ⟨kY_X0_steps, List.forall_mem_cons.mpr ⟨kY_X0_stack, (fun _ h => absurd h List.not_mem_nil)⟩⟩⟩⟩⟩)
theorem inW2 : ∀ w ∈ u_ws RX2 TX2 2, w ∈ WL := (show ∀ w ∈ ([Cond.laysFinal RX2 "HalfFriends$Order" "unruly" "[I", Cond.lays RX2 "HalfFriends$Order" "all" "I"] : List Cond), w ∈ WL from List.forall_mem_cons.mpr ⟨kY_X2_unruly, List.forall_mem_cons.mpr ⟨kY_X2_all, (fun _ h => absurd h List.not_mem_nil)⟩⟩)
theorem inW3 : ∀ w ∈ u_ws RX3 TX3 9, w ∈ WL := (show ∀ w ∈ ([Cond.laysFinal RX3 "HalfFriends$Reader" "tape" "[I", Cond.laysFinal RX3 "HalfFriends$Reader" "steps" "[I", Cond.lays RX3 "HalfFriends$Reader" "length" "I", Cond.lays RX3 "HalfFriends$Reader" "start" "I", Cond.lays RX3 "HalfFriends$Reader" "end" "I", Cond.lays RX3 "HalfFriends$Reader" "glued" "Z", Cond.lays RX3 "HalfFriends$Reader" "key" "I", Cond.lays RX3 "HalfFriends$Reader" "leaves" "I", Cond.lays RX3 "HalfFriends$Reader" "stepCount" "I"] : List Cond), w ∈ WL from List.forall_mem_cons.mpr ⟨kY_X3_tape, List.forall_mem_cons.mpr ⟨kY_X3_steps, List.forall_mem_cons.mpr ⟨kY_X3_length, List.forall_mem_cons.mpr ⟨kY_X3_start, List.forall_mem_cons.mpr ⟨kY_X3_end, List.forall_mem_cons.mpr ⟨kY_X3_glued, List.forall_mem_cons.mpr ⟨kY_X3_key, List.forall_mem_cons.mpr ⟨kY_X3_leaves, List.forall_mem_cons.mpr ⟨kY_X3_stepCount, (fun _ h => absurd h List.not_mem_nil)⟩⟩⟩⟩⟩⟩⟩⟩⟩)
theorem inW4 : ∀ w ∈ u_ws RX4 TX4 3, w ∈ WL := (show ∀ w ∈ ([Cond.laysFinal RX4 "HalfFriends$Row" "places" "[I", Cond.lays RX4 "HalfFriends$Row" "sort" "I", Cond.lays RX4 "HalfFriends$Row" "size" "I"] : List Cond), w ∈ WL from List.forall_mem_cons.mpr ⟨kY_X4_places, List.forall_mem_cons.mpr ⟨kY_X4_sort, List.forall_mem_cons.mpr ⟨kY_X4_size, (fun _ h => absurd h List.not_mem_nil)⟩⟩⟩)
theorem inW5 : ∀ w ∈ u_ws RX5 TX5 5, w ∈ WL := (show ∀ w ∈ ([Cond.laysFinal RX5 "HalfFriends$Slot" "row" "LHalfFriends$Row;", Cond.lays RX5 "HalfFriends$Slot" "thing" "I", Cond.lays RX5 "HalfFriends$Slot" "kind" "I", Cond.lays RX5 "HalfFriends$Slot" "price" "I", Cond.lays RX5 "HalfFriends$Slot" "number" "I"] : List Cond), w ∈ WL from List.forall_mem_cons.mpr ⟨kY_X5_row, List.forall_mem_cons.mpr ⟨kY_X5_thing, List.forall_mem_cons.mpr ⟨kY_X5_kind, List.forall_mem_cons.mpr ⟨kY_X5_price, List.forall_mem_cons.mpr ⟨kY_X5_number, (fun _ h => absurd h List.not_mem_nil)⟩⟩⟩⟩⟩)
theorem inW6 : ∀ w ∈ u_ws RX6 TX6 15, w ∈ WL := (show ∀ w ∈ ([Cond.laysFinal RX6 "HalfFriends$Town" "book" "LHalfFriends$Book;", Cond.laysFinal RX6 "HalfFriends$Town" "kind" "[I", Cond.laysFinal RX6 "HalfFriends$Town" "price" "[I", Cond.laysFinal RX6 "HalfFriends$Town" "purse" "[I", Cond.laysFinal RX6 "HalfFriends$Town" "circle" "[I", Cond.lays RX6 "HalfFriends$Town" "size" "I", Cond.lays RX6 "HalfFriends$Town" "minds" "I", Cond.lays RX6 "HalfFriends$Town" "slack" "I", Cond.lays RX6 "HalfFriends$Town" "mode" "I", Cond.lays RX6 "HalfFriends$Town" "whim" "I", Cond.lays RX6 "HalfFriends$Town" "chest" "I", Cond.lays RX6 "HalfFriends$Town" "changes" "I", Cond.lays RX6 "HalfFriends$Town" "year" "I", Cond.lays RX6 "HalfFriends$Town" "z" "I", Cond.lays RX6 "HalfFriends$Town" "texts" "I"] : List Cond), w ∈ WL from List.forall_mem_cons.mpr ⟨kY_X6_book, List.forall_mem_cons.mpr ⟨kY_X6_kind, List.forall_mem_cons.mpr ⟨kY_X6_price, List.forall_mem_cons.mpr ⟨kY_X6_purse, List.forall_mem_cons.mpr ⟨kY_X6_circle, List.forall_mem_cons.mpr ⟨kY_X6_size, List.forall_mem_cons.mpr ⟨kY_X6_minds, List.forall_mem_cons.mpr ⟨kY_X6_slack, List.forall_mem_cons.mpr ⟨kY_X6_mode, List.forall_mem_cons.mpr ⟨kY_X6_whim, List.forall_mem_cons.mpr ⟨kY_X6_chest, List.forall_mem_cons.mpr ⟨kY_X6_changes, List.forall_mem_cons.mpr ⟨kY_X6_year, List.forall_mem_cons.mpr ⟨kY_X6_z, List.forall_mem_cons.mpr ⟨kY_X6_texts, (fun _ h => absurd h List.not_mem_nil)⟩⟩⟩⟩⟩⟩⟩⟩⟩⟩⟩⟩⟩⟩⟩)
theorem inW7 : ∀ w ∈ u_ws RX7 TX7 11, w ∈ WL := (show ∀ w ∈ ([Cond.laysFinal RX7 "HalfFriends" "book" "LHalfFriends$Book;", Cond.laysFinal RX7 "HalfFriends" "now" "LHalfFriends$Town;", Cond.laysFinal RX7 "HalfFriends" "image" "LHalfFriends$Town;", Cond.laysFinal RX7 "HalfFriends" "thought" "LHalfFriends$Town;", Cond.laysFinal RX7 "HalfFriends" "order" "LHalfFriends$Order;", Cond.laysFinal RX7 "HalfFriends" "reader" "LHalfFriends$Reader;", Cond.laysFinal RX7 "HalfFriends" "sheets" "[LHalfFriends$Row;", Cond.laysFinal RX7 "HalfFriends" "slots" "[LHalfFriends$Slot;", Cond.laysFinal RX7 "HalfFriends" "waiting" "[I", Cond.lays RX7 "HalfFriends" "waits" "I", Cond.lays RX7 "HalfFriends" "kept" "Z"] : List Cond), w ∈ WL from List.forall_mem_cons.mpr ⟨kY_X7_book, List.forall_mem_cons.mpr ⟨kY_X7_now, List.forall_mem_cons.mpr ⟨kY_X7_image, List.forall_mem_cons.mpr ⟨kY_X7_thought, List.forall_mem_cons.mpr ⟨kY_X7_order, List.forall_mem_cons.mpr ⟨kY_X7_reader, List.forall_mem_cons.mpr ⟨kY_X7_sheets, List.forall_mem_cons.mpr ⟨kY_X7_slots, List.forall_mem_cons.mpr ⟨kY_X7_waiting, List.forall_mem_cons.mpr ⟨kY_X7_waits, List.forall_mem_cons.mpr ⟨kY_X7_kept, (fun _ h => absurd h List.not_mem_nil)⟩⟩⟩⟩⟩⟩⟩⟩⟩⟩⟩)
theorem inW8 : ∀ w ∈ u_ws RX8 TX8 31, w ∈ WL := (show ∀ w ∈ ([Cond.laysFinal RX8 "HalfFriendsModel" "s" "[I", Cond.laysFinal RX8 "HalfFriendsModel" "image" "[I", Cond.laysFinal RX8 "HalfFriendsModel" "aside" "[I", Cond.lays RX8 "HalfFriendsModel" "hasImage" "Z", Cond.laysFinal RX8 "HalfFriendsModel" "tSort" "[I", Cond.laysFinal RX8 "HalfFriendsModel" "tSize" "[I", Cond.laysFinal RX8 "HalfFriendsModel" "tNumber" "[I", Cond.laysFinal RX8 "HalfFriendsModel" "held" "[I", Cond.laysFinal RX8 "HalfFriendsModel" "heldNumber" "[I", Cond.laysFinal RX8 "HalfFriendsModel" "heldWorth" "[I", Cond.laysFinal RX8 "HalfFriendsModel" "heldSize" "[I", Cond.laysFinal RX8 "HalfFriendsModel" "heldRow" "[I", Cond.laysFinal RX8 "HalfFriendsModel" "close" "[I", Cond.laysFinal RX8 "HalfFriendsModel" "tape" "[I", Cond.lays RX8 "HalfFriendsModel" "taped" "I", Cond.lays RX8 "HalfFriendsModel" "begin" "I", Cond.lays RX8 "HalfFriendsModel" "behind" "I", Cond.lays RX8 "HalfFriendsModel" "token" "I", Cond.lays RX8 "HalfFriendsModel" "number" "I", Cond.lays RX8 "HalfFriendsModel" "letter" "I", Cond.lays RX8 "HalfFriendsModel" "deep" "I", Cond.lays RX8 "HalfFriendsModel" "turned" "I", Cond.lays RX8 "HalfFriendsModel" "laid" "I", Cond.lays RX8 "HalfFriendsModel" "laidAt" "I", Cond.lays RX8 "HalfFriendsModel" "said" "I", Cond.laysFinal RX8 "HalfFriendsModel" "named" "[I", Cond.laysFinal RX8 "HalfFriendsModel" "pile" "[I", Cond.laysFinal RX8 "HalfFriendsModel" "carried" "[I", Cond.laysFinal RX8 "HalfFriendsModel" "waits" "[I", Cond.lays RX8 "HalfFriendsModel" "waiting" "I", Cond.laysFinal RX8 "HalfFriendsModel" "rowDue" "[I"] : List Cond), w ∈ WL from List.forall_mem_cons.mpr ⟨kY_X8_s, List.forall_mem_cons.mpr ⟨kY_X8_image, List.forall_mem_cons.mpr ⟨kY_X8_aside, List.forall_mem_cons.mpr ⟨kY_X8_hasImage, List.forall_mem_cons.mpr ⟨kY_X8_tSort, List.forall_mem_cons.mpr ⟨kY_X8_tSize, List.forall_mem_cons.mpr ⟨kY_X8_tNumber, List.forall_mem_cons.mpr ⟨kY_X8_held, List.forall_mem_cons.mpr ⟨kY_X8_heldNumber, List.forall_mem_cons.mpr ⟨kY_X8_heldWorth, List.forall_mem_cons.mpr ⟨kY_X8_heldSize, List.forall_mem_cons.mpr ⟨kY_X8_heldRow, List.forall_mem_cons.mpr ⟨kY_X8_close, List.forall_mem_cons.mpr ⟨kY_X8_tape, List.forall_mem_cons.mpr ⟨kY_X8_taped, List.forall_mem_cons.mpr ⟨kY_X8_begin, List.forall_mem_cons.mpr ⟨kY_X8_behind, List.forall_mem_cons.mpr ⟨kY_X8_token, List.forall_mem_cons.mpr ⟨kY_X8_number, List.forall_mem_cons.mpr ⟨kY_X8_letter, List.forall_mem_cons.mpr ⟨kY_X8_deep, List.forall_mem_cons.mpr ⟨kY_X8_turned, List.forall_mem_cons.mpr ⟨kY_X8_laid, List.forall_mem_cons.mpr ⟨kY_X8_laidAt, List.forall_mem_cons.mpr ⟨kY_X8_said, List.forall_mem_cons.mpr ⟨kY_X8_named, List.forall_mem_cons.mpr ⟨kY_X8_pile, List.forall_mem_cons.mpr ⟨kY_X8_carried, List.forall_mem_cons.mpr ⟨kY_X8_waits, List.forall_mem_cons.mpr ⟨kY_X8_waiting, List.forall_mem_cons.mpr ⟨kY_X8_rowDue, (fun _ h => absurd h List.not_mem_nil)⟩⟩⟩⟩⟩⟩⟩⟩⟩⟩⟩⟩⟩⟩⟩⟩⟩⟩⟩⟩⟩⟩⟩⟩⟩⟩⟩⟩⟩⟩⟩)
theorem fr_X0_9 : FR RX0 9 0 0 := ⟨RX0, TX0, 5, rfl, by decide, inW0, kF_X0_9⟩
theorem fr_X0_15 : FR RX0 15 0 1 := ⟨RX0, TX0, 5, rfl, by decide, inW0, kF_X0_15⟩
theorem fr_X0_18 : FR RX0 18 0 2 := ⟨RX0, TX0, 5, rfl, by decide, inW0, kF_X0_18⟩
theorem fr_X0_23 : FR RX0 23 0 3 := ⟨RX0, TX0, 5, rfl, by decide, inW0, kF_X0_23⟩
theorem fr_X0_26 : FR RX0 26 0 4 := ⟨RX0, TX0, 5, rfl, by decide, inW0, kF_X0_26⟩
theorem fr_X0_29 : FR RX0 29 2 6 := ⟨RX3, TX3, 9, rfl, by decide, inW3, kF_X0_29⟩
theorem fw_X0_29 : FW RX0 29 2 6 .int := ⟨RX3, TX3, 9, tyX3, rfl, by decide, inW3, kF_X0_29, tyX3_ok, nmX3, rfl, by decide +kernel⟩
theorem fr_X0_35 : FR RX0 35 2 7 := ⟨RX3, TX3, 9, rfl, by decide, inW3, kF_X0_35⟩
theorem fw_X0_35 : FW RX0 35 2 7 .int := ⟨RX3, TX3, 9, tyX3, rfl, by decide, inW3, kF_X0_35, tyX3_ok, nmX3, rfl, by decide +kernel⟩
theorem fr_X0_37 : FR RX0 37 2 8 := ⟨RX3, TX3, 9, rfl, by decide, inW3, kF_X0_37⟩
theorem fw_X0_37 : FW RX0 37 2 8 .int := ⟨RX3, TX3, 9, tyX3, rfl, by decide, inW3, kF_X0_37, tyX3_ok, nmX3, rfl, by decide +kernel⟩
theorem fr_X0_40 : FR RX0 40 2 1 := ⟨RX3, TX3, 9, rfl, by decide, inW3, kF_X0_40⟩
theorem fr_X2_9 : FR RX2 9 1 0 := ⟨RX2, TX2, 2, rfl, by decide, inW2, kF_X2_9⟩
theorem fr_X2_15 : FR RX2 15 1 1 := ⟨RX2, TX2, 2, rfl, by decide, inW2, kF_X2_15⟩
theorem fw_X2_15 : FW RX2 15 1 1 .int := ⟨RX2, TX2, 2, tyX2, rfl, by decide, inW2, kF_X2_15, tyX2_ok, nmX2, rfl, by decide +kernel⟩
theorem fr_X2_25 : FR RX2 25 5 5 := ⟨RX6, TX6, 15, rfl, by decide, inW6, kF_X2_25⟩
theorem fw_X2_25 : FW RX2 25 5 5 .int := ⟨RX6, TX6, 15, tyX6, rfl, by decide, inW6, kF_X2_25, tyX6_ok, nmX6, rfl, by decide +kernel⟩
theorem fr_X2_34 : FR RX2 34 5 6 := ⟨RX6, TX6, 15, rfl, by decide, inW6, kF_X2_34⟩
theorem fw_X2_34 : FW RX2 34 5 6 .int := ⟨RX6, TX6, 15, tyX6, rfl, by decide, inW6, kF_X2_34, tyX6_ok, nmX6, rfl, by decide +kernel⟩
theorem fr_X2_57 : FR RX2 57 5 4 := ⟨RX6, TX6, 15, rfl, by decide, inW6, kF_X2_57⟩
theorem fr_X2_63 : FR RX2 63 5 7 := ⟨RX6, TX6, 15, rfl, by decide, inW6, kF_X2_63⟩
theorem fw_X2_63 : FW RX2 63 5 7 .int := ⟨RX6, TX6, 15, tyX6, rfl, by decide, inW6, kF_X2_63, tyX6_ok, nmX6, rfl, by decide +kernel⟩
theorem fr_X3_9 : FR RX3 9 2 0 := ⟨RX3, TX3, 9, rfl, by decide, inW3, kF_X3_9⟩
theorem fr_X3_15 : FR RX3 15 2 1 := ⟨RX3, TX3, 9, rfl, by decide, inW3, kF_X3_15⟩
theorem fr_X3_18 : FR RX3 18 2 2 := ⟨RX3, TX3, 9, rfl, by decide, inW3, kF_X3_18⟩
theorem fw_X3_18 : FW RX3 18 2 2 .int := ⟨RX3, TX3, 9, tyX3, rfl, by decide, inW3, kF_X3_18, tyX3_ok, nmX3, rfl, by decide +kernel⟩
theorem fr_X3_22 : FR RX3 22 2 3 := ⟨RX3, TX3, 9, rfl, by decide, inW3, kF_X3_22⟩
theorem fw_X3_22 : FW RX3 22 2 3 .int := ⟨RX3, TX3, 9, tyX3, rfl, by decide, inW3, kF_X3_22, tyX3_ok, nmX3, rfl, by decide +kernel⟩
theorem fr_X3_25 : FR RX3 25 2 4 := ⟨RX3, TX3, 9, rfl, by decide, inW3, kF_X3_25⟩
theorem fw_X3_25 : FW RX3 25 2 4 .int := ⟨RX3, TX3, 9, tyX3, rfl, by decide, inW3, kF_X3_25, tyX3_ok, nmX3, rfl, by decide +kernel⟩
theorem fr_X3_28 : FR RX3 28 2 5 := ⟨RX3, TX3, 9, rfl, by decide, inW3, kF_X3_28⟩
theorem fw_X3_28 : FW RX3 28 2 5 .boolean := ⟨RX3, TX3, 9, tyX3, rfl, by decide, inW3, kF_X3_28, tyX3_ok, nmX3, rfl, by decide +kernel⟩
theorem fr_X3_32 : FR RX3 32 2 6 := ⟨RX3, TX3, 9, rfl, by decide, inW3, kF_X3_32⟩
theorem fw_X3_32 : FW RX3 32 2 6 .int := ⟨RX3, TX3, 9, tyX3, rfl, by decide, inW3, kF_X3_32, tyX3_ok, nmX3, rfl, by decide +kernel⟩
theorem fr_X3_35 : FR RX3 35 2 7 := ⟨RX3, TX3, 9, rfl, by decide, inW3, kF_X3_35⟩
theorem fw_X3_35 : FW RX3 35 2 7 .int := ⟨RX3, TX3, 9, tyX3, rfl, by decide, inW3, kF_X3_35, tyX3_ok, nmX3, rfl, by decide +kernel⟩
theorem fr_X3_38 : FR RX3 38 2 8 := ⟨RX3, TX3, 9, rfl, by decide, inW3, kF_X3_38⟩
theorem fw_X3_38 : FW RX3 38 2 8 .int := ⟨RX3, TX3, 9, tyX3, rfl, by decide, inW3, kF_X3_38, tyX3_ok, nmX3, rfl, by decide +kernel⟩
theorem fr_X4_9 : FR RX4 9 3 0 := ⟨RX4, TX4, 3, rfl, by decide, inW4, kF_X4_9⟩
theorem fr_X4_15 : FR RX4 15 3 1 := ⟨RX4, TX4, 3, rfl, by decide, inW4, kF_X4_15⟩
theorem fw_X4_15 : FW RX4 15 3 1 .int := ⟨RX4, TX4, 3, tyX4, rfl, by decide, inW4, kF_X4_15, tyX4_ok, nmX4, rfl, by decide +kernel⟩
theorem fr_X4_19 : FR RX4 19 3 2 := ⟨RX4, TX4, 3, rfl, by decide, inW4, kF_X4_19⟩
theorem fw_X4_19 : FW RX4 19 3 2 .int := ⟨RX4, TX4, 3, tyX4, rfl, by decide, inW4, kF_X4_19, tyX4_ok, nmX4, rfl, by decide +kernel⟩
theorem fr_X5_12 : FR RX5 12 4 0 := ⟨RX5, TX5, 5, rfl, by decide, inW5, kF_X5_12⟩
theorem fr_X5_18 : FR RX5 18 4 1 := ⟨RX5, TX5, 5, rfl, by decide, inW5, kF_X5_18⟩
theorem fw_X5_18 : FW RX5 18 4 1 .int := ⟨RX5, TX5, 5, tyX5, rfl, by decide, inW5, kF_X5_18, tyX5_ok, nmX5, rfl, by decide +kernel⟩
theorem fr_X5_22 : FR RX5 22 4 2 := ⟨RX5, TX5, 5, rfl, by decide, inW5, kF_X5_22⟩
theorem fw_X5_22 : FW RX5 22 4 2 .int := ⟨RX5, TX5, 5, tyX5, rfl, by decide, inW5, kF_X5_22, tyX5_ok, nmX5, rfl, by decide +kernel⟩
theorem fr_X5_25 : FR RX5 25 4 3 := ⟨RX5, TX5, 5, rfl, by decide, inW5, kF_X5_25⟩
theorem fw_X5_25 : FW RX5 25 4 3 .int := ⟨RX5, TX5, 5, tyX5, rfl, by decide, inW5, kF_X5_25, tyX5_ok, nmX5, rfl, by decide +kernel⟩
theorem fr_X5_28 : FR RX5 28 4 4 := ⟨RX5, TX5, 5, rfl, by decide, inW5, kF_X5_28⟩
theorem fw_X5_28 : FW RX5 28 4 4 .int := ⟨RX5, TX5, 5, tyX5, rfl, by decide, inW5, kF_X5_28, tyX5_ok, nmX5, rfl, by decide +kernel⟩
theorem fr_X6_9 : FR RX6 9 5 1 := ⟨RX6, TX6, 15, rfl, by decide, inW6, kF_X6_9⟩
theorem fr_X6_15 : FR RX6 15 5 2 := ⟨RX6, TX6, 15, rfl, by decide, inW6, kF_X6_15⟩
theorem fr_X6_18 : FR RX6 18 5 3 := ⟨RX6, TX6, 15, rfl, by decide, inW6, kF_X6_18⟩
theorem fr_X6_21 : FR RX6 21 5 4 := ⟨RX6, TX6, 15, rfl, by decide, inW6, kF_X6_21⟩
theorem fr_X6_24 : FR RX6 24 5 5 := ⟨RX6, TX6, 15, rfl, by decide, inW6, kF_X6_24⟩
theorem fw_X6_24 : FW RX6 24 5 5 .int := ⟨RX6, TX6, 15, tyX6, rfl, by decide, inW6, kF_X6_24, tyX6_ok, nmX6, rfl, by decide +kernel⟩
theorem fr_X6_28 : FR RX6 28 5 6 := ⟨RX6, TX6, 15, rfl, by decide, inW6, kF_X6_28⟩
theorem fw_X6_28 : FW RX6 28 5 6 .int := ⟨RX6, TX6, 15, tyX6, rfl, by decide, inW6, kF_X6_28, tyX6_ok, nmX6, rfl, by decide +kernel⟩
theorem fr_X6_31 : FR RX6 31 5 7 := ⟨RX6, TX6, 15, rfl, by decide, inW6, kF_X6_31⟩
theorem fw_X6_31 : FW RX6 31 5 7 .int := ⟨RX6, TX6, 15, tyX6, rfl, by decide, inW6, kF_X6_31, tyX6_ok, nmX6, rfl, by decide +kernel⟩
theorem fr_X6_34 : FR RX6 34 5 8 := ⟨RX6, TX6, 15, rfl, by decide, inW6, kF_X6_34⟩
theorem fw_X6_34 : FW RX6 34 5 8 .int := ⟨RX6, TX6, 15, tyX6, rfl, by decide, inW6, kF_X6_34, tyX6_ok, nmX6, rfl, by decide +kernel⟩
theorem fr_X6_37 : FR RX6 37 5 9 := ⟨RX6, TX6, 15, rfl, by decide, inW6, kF_X6_37⟩
theorem fw_X6_37 : FW RX6 37 5 9 .int := ⟨RX6, TX6, 15, tyX6, rfl, by decide, inW6, kF_X6_37, tyX6_ok, nmX6, rfl, by decide +kernel⟩
theorem fr_X6_40 : FR RX6 40 5 10 := ⟨RX6, TX6, 15, rfl, by decide, inW6, kF_X6_40⟩
theorem fw_X6_40 : FW RX6 40 5 10 .int := ⟨RX6, TX6, 15, tyX6, rfl, by decide, inW6, kF_X6_40, tyX6_ok, nmX6, rfl, by decide +kernel⟩
theorem fr_X6_43 : FR RX6 43 5 11 := ⟨RX6, TX6, 15, rfl, by decide, inW6, kF_X6_43⟩
theorem fw_X6_43 : FW RX6 43 5 11 .int := ⟨RX6, TX6, 15, tyX6, rfl, by decide, inW6, kF_X6_43, tyX6_ok, nmX6, rfl, by decide +kernel⟩
theorem fr_X6_46 : FR RX6 46 5 12 := ⟨RX6, TX6, 15, rfl, by decide, inW6, kF_X6_46⟩
theorem fw_X6_46 : FW RX6 46 5 12 .int := ⟨RX6, TX6, 15, tyX6, rfl, by decide, inW6, kF_X6_46, tyX6_ok, nmX6, rfl, by decide +kernel⟩
theorem fr_X6_49 : FR RX6 49 5 13 := ⟨RX6, TX6, 15, rfl, by decide, inW6, kF_X6_49⟩
theorem fw_X6_49 : FW RX6 49 5 13 .int := ⟨RX6, TX6, 15, tyX6, rfl, by decide, inW6, kF_X6_49, tyX6_ok, nmX6, rfl, by decide +kernel⟩
theorem fr_X6_52 : FR RX6 52 5 14 := ⟨RX6, TX6, 15, rfl, by decide, inW6, kF_X6_52⟩
theorem fw_X6_52 : FW RX6 52 5 14 .int := ⟨RX6, TX6, 15, tyX6, rfl, by decide, inW6, kF_X6_52, tyX6_ok, nmX6, rfl, by decide +kernel⟩
theorem fr_X6_55 : FR RX6 55 5 0 := ⟨RX6, TX6, 15, rfl, by decide, inW6, kF_X6_55⟩
theorem fr_X7_10 : FR RX7 10 6 0 := ⟨RX7, TX7, 11, rfl, by decide, inW7, kF_X7_10⟩
theorem fr_X7_21 : FR RX7 21 6 1 := ⟨RX7, TX7, 11, rfl, by decide, inW7, kF_X7_21⟩
theorem fr_X7_25 : FR RX7 25 6 2 := ⟨RX7, TX7, 11, rfl, by decide, inW7, kF_X7_25⟩
theorem fr_X7_28 : FR RX7 28 6 3 := ⟨RX7, TX7, 11, rfl, by decide, inW7, kF_X7_28⟩
theorem fr_X7_34 : FR RX7 34 6 4 := ⟨RX7, TX7, 11, rfl, by decide, inW7, kF_X7_34⟩
theorem fr_X7_41 : FR RX7 41 6 5 := ⟨RX7, TX7, 11, rfl, by decide, inW7, kF_X7_41⟩
theorem fr_X7_47 : FR RX7 47 6 6 := ⟨RX7, TX7, 11, rfl, by decide, inW7, kF_X7_47⟩
theorem fr_X7_53 : FR RX7 53 6 7 := ⟨RX7, TX7, 11, rfl, by decide, inW7, kF_X7_53⟩
theorem fr_X7_57 : FR RX7 57 6 8 := ⟨RX7, TX7, 11, rfl, by decide, inW7, kF_X7_57⟩
theorem fr_X7_61 : FR RX7 61 6 9 := ⟨RX7, TX7, 11, rfl, by decide, inW7, kF_X7_61⟩
theorem fw_X7_61 : FW RX7 61 6 9 .int := ⟨RX7, TX7, 11, tyX7, rfl, by decide, inW7, kF_X7_61, tyX7_ok, nmX7, rfl, by decide +kernel⟩
theorem fr_X7_65 : FR RX7 65 6 10 := ⟨RX7, TX7, 11, rfl, by decide, inW7, kF_X7_65⟩
theorem fw_X7_65 : FW RX7 65 6 10 .boolean := ⟨RX7, TX7, 11, tyX7, rfl, by decide, inW7, kF_X7_65, tyX7_ok, nmX7, rfl, by decide +kernel⟩
theorem fr_X7_76 : FR RX7 76 5 5 := ⟨RX6, TX6, 15, rfl, by decide, inW6, kF_X7_76⟩
theorem fw_X7_76 : FW RX7 76 5 5 .int := ⟨RX6, TX6, 15, tyX6, rfl, by decide, inW6, kF_X7_76, tyX6_ok, nmX6, rfl, by decide +kernel⟩
theorem fr_X7_88 : FR RX7 88 5 1 := ⟨RX6, TX6, 15, rfl, by decide, inW6, kF_X7_88⟩
theorem fr_X7_95 : FR RX7 95 5 2 := ⟨RX6, TX6, 15, rfl, by decide, inW6, kF_X7_95⟩
theorem fr_X7_98 : FR RX7 98 5 3 := ⟨RX6, TX6, 15, rfl, by decide, inW6, kF_X7_98⟩
theorem fr_X7_101 : FR RX7 101 5 4 := ⟨RX6, TX6, 15, rfl, by decide, inW6, kF_X7_101⟩
theorem fr_X7_140 : FR RX7 140 5 7 := ⟨RX6, TX6, 15, rfl, by decide, inW6, kF_X7_140⟩
theorem fw_X7_140 : FW RX7 140 5 7 .int := ⟨RX6, TX6, 15, tyX6, rfl, by decide, inW6, kF_X7_140, tyX6_ok, nmX6, rfl, by decide +kernel⟩
theorem fr_X7_143 : FR RX7 143 5 8 := ⟨RX6, TX6, 15, rfl, by decide, inW6, kF_X7_143⟩
theorem fw_X7_143 : FW RX7 143 5 8 .int := ⟨RX6, TX6, 15, tyX6, rfl, by decide, inW6, kF_X7_143, tyX6_ok, nmX6, rfl, by decide +kernel⟩
theorem fr_X7_146 : FR RX7 146 5 9 := ⟨RX6, TX6, 15, rfl, by decide, inW6, kF_X7_146⟩
theorem fw_X7_146 : FW RX7 146 5 9 .int := ⟨RX6, TX6, 15, tyX6, rfl, by decide, inW6, kF_X7_146, tyX6_ok, nmX6, rfl, by decide +kernel⟩
theorem fr_X7_158 : FR RX7 158 5 13 := ⟨RX6, TX6, 15, rfl, by decide, inW6, kF_X7_158⟩
theorem fw_X7_158 : FW RX7 158 5 13 .int := ⟨RX6, TX6, 15, tyX6, rfl, by decide, inW6, kF_X7_158, tyX6_ok, nmX6, rfl, by decide +kernel⟩
theorem fr_X7_164 : FR RX7 164 5 10 := ⟨RX6, TX6, 15, rfl, by decide, inW6, kF_X7_164⟩
theorem fw_X7_164 : FW RX7 164 5 10 .int := ⟨RX6, TX6, 15, tyX6, rfl, by decide, inW6, kF_X7_164, tyX6_ok, nmX6, rfl, by decide +kernel⟩
theorem fr_X7_167 : FR RX7 167 5 11 := ⟨RX6, TX6, 15, rfl, by decide, inW6, kF_X7_167⟩
theorem fw_X7_167 : FW RX7 167 5 11 .int := ⟨RX6, TX6, 15, tyX6, rfl, by decide, inW6, kF_X7_167, tyX6_ok, nmX6, rfl, by decide +kernel⟩
theorem fr_X7_170 : FR RX7 170 5 6 := ⟨RX6, TX6, 15, rfl, by decide, inW6, kF_X7_170⟩
theorem fw_X7_170 : FW RX7 170 5 6 .int := ⟨RX6, TX6, 15, tyX6, rfl, by decide, inW6, kF_X7_170, tyX6_ok, nmX6, rfl, by decide +kernel⟩
theorem fr_X7_202 : FR RX7 202 5 12 := ⟨RX6, TX6, 15, rfl, by decide, inW6, kF_X7_202⟩
theorem fw_X7_202 : FW RX7 202 5 12 .int := ⟨RX6, TX6, 15, tyX6, rfl, by decide, inW6, kF_X7_202, tyX6_ok, nmX6, rfl, by decide +kernel⟩
theorem fr_X7_223 : FR RX7 223 3 2 := ⟨RX4, TX4, 3, rfl, by decide, inW4, kF_X7_223⟩
theorem fw_X7_223 : FW RX7 223 3 2 .int := ⟨RX4, TX4, 3, tyX4, rfl, by decide, inW4, kF_X7_223, tyX4_ok, nmX4, rfl, by decide +kernel⟩
theorem fr_X7_230 : FR RX7 230 3 0 := ⟨RX4, TX4, 3, rfl, by decide, inW4, kF_X7_230⟩
theorem fr_X7_236 : FR RX7 236 5 14 := ⟨RX6, TX6, 15, rfl, by decide, inW6, kF_X7_236⟩
theorem fw_X7_236 : FW RX7 236 5 14 .int := ⟨RX6, TX6, 15, tyX6, rfl, by decide, inW6, kF_X7_236, tyX6_ok, nmX6, rfl, by decide +kernel⟩
theorem fr_X7_246 : FR RX7 246 2 2 := ⟨RX3, TX3, 9, rfl, by decide, inW3, kF_X7_246⟩
theorem fw_X7_246 : FW RX7 246 2 2 .int := ⟨RX3, TX3, 9, tyX3, rfl, by decide, inW3, kF_X7_246, tyX3_ok, nmX3, rfl, by decide +kernel⟩
theorem fr_X7_255 : FR RX7 255 2 3 := ⟨RX3, TX3, 9, rfl, by decide, inW3, kF_X7_255⟩
theorem fw_X7_255 : FW RX7 255 2 3 .int := ⟨RX3, TX3, 9, tyX3, rfl, by decide, inW3, kF_X7_255, tyX3_ok, nmX3, rfl, by decide +kernel⟩
theorem fr_X7_262 : FR RX7 262 0 0 := ⟨RX0, TX0, 5, rfl, by decide, inW0, kF_X7_262⟩
theorem fr_X7_265 : FR RX7 265 0 1 := ⟨RX0, TX0, 5, rfl, by decide, inW0, kF_X7_265⟩
theorem fr_X7_277 : FR RX7 277 3 1 := ⟨RX4, TX4, 3, rfl, by decide, inW4, kF_X7_277⟩
theorem fw_X7_277 : FW RX7 277 3 1 .int := ⟨RX4, TX4, 3, tyX4, rfl, by decide, inW4, kF_X7_277, tyX4_ok, nmX4, rfl, by decide +kernel⟩
theorem fr_X7_294 : FR RX7 294 4 1 := ⟨RX5, TX5, 5, rfl, by decide, inW5, kF_X7_294⟩
theorem fw_X7_294 : FW RX7 294 4 1 .int := ⟨RX5, TX5, 5, tyX5, rfl, by decide, inW5, kF_X7_294, tyX5_ok, nmX5, rfl, by decide +kernel⟩
theorem fr_X7_297 : FR RX7 297 4 2 := ⟨RX5, TX5, 5, rfl, by decide, inW5, kF_X7_297⟩
theorem fw_X7_297 : FW RX7 297 4 2 .int := ⟨RX5, TX5, 5, tyX5, rfl, by decide, inW5, kF_X7_297, tyX5_ok, nmX5, rfl, by decide +kernel⟩
theorem fr_X7_299 : FR RX7 299 4 3 := ⟨RX5, TX5, 5, rfl, by decide, inW5, kF_X7_299⟩
theorem fw_X7_299 : FW RX7 299 4 3 .int := ⟨RX5, TX5, 5, tyX5, rfl, by decide, inW5, kF_X7_299, tyX5_ok, nmX5, rfl, by decide +kernel⟩
theorem fr_X7_301 : FR RX7 301 4 0 := ⟨RX5, TX5, 5, rfl, by decide, inW5, kF_X7_301⟩
theorem fr_X7_308 : FR RX7 308 4 4 := ⟨RX5, TX5, 5, rfl, by decide, inW5, kF_X7_308⟩
theorem fw_X7_308 : FW RX7 308 4 4 .int := ⟨RX5, TX5, 5, tyX5, rfl, by decide, inW5, kF_X7_308, tyX5_ok, nmX5, rfl, by decide +kernel⟩
theorem fr_X8_7 : FR RX8 7 7 0 := ⟨RX8, TX8, 31, rfl, by decide, inW8, kF_X8_7⟩
theorem fr_X8_13 : FR RX8 13 7 1 := ⟨RX8, TX8, 31, rfl, by decide, inW8, kF_X8_13⟩
theorem fr_X8_16 : FR RX8 16 7 2 := ⟨RX8, TX8, 31, rfl, by decide, inW8, kF_X8_16⟩
theorem fr_X8_19 : FR RX8 19 7 4 := ⟨RX8, TX8, 31, rfl, by decide, inW8, kF_X8_19⟩
theorem fr_X8_22 : FR RX8 22 7 5 := ⟨RX8, TX8, 31, rfl, by decide, inW8, kF_X8_22⟩
theorem fr_X8_25 : FR RX8 25 7 6 := ⟨RX8, TX8, 31, rfl, by decide, inW8, kF_X8_25⟩
theorem fr_X8_28 : FR RX8 28 7 7 := ⟨RX8, TX8, 31, rfl, by decide, inW8, kF_X8_28⟩
theorem fr_X8_31 : FR RX8 31 7 8 := ⟨RX8, TX8, 31, rfl, by decide, inW8, kF_X8_31⟩
theorem fr_X8_34 : FR RX8 34 7 9 := ⟨RX8, TX8, 31, rfl, by decide, inW8, kF_X8_34⟩
theorem fr_X8_37 : FR RX8 37 7 10 := ⟨RX8, TX8, 31, rfl, by decide, inW8, kF_X8_37⟩
theorem fr_X8_40 : FR RX8 40 7 11 := ⟨RX8, TX8, 31, rfl, by decide, inW8, kF_X8_40⟩
theorem fr_X8_43 : FR RX8 43 7 12 := ⟨RX8, TX8, 31, rfl, by decide, inW8, kF_X8_43⟩
theorem fr_X8_46 : FR RX8 46 7 13 := ⟨RX8, TX8, 31, rfl, by decide, inW8, kF_X8_46⟩
theorem fr_X8_49 : FR RX8 49 7 25 := ⟨RX8, TX8, 31, rfl, by decide, inW8, kF_X8_49⟩
theorem fr_X8_52 : FR RX8 52 7 26 := ⟨RX8, TX8, 31, rfl, by decide, inW8, kF_X8_52⟩
theorem fr_X8_55 : FR RX8 55 7 27 := ⟨RX8, TX8, 31, rfl, by decide, inW8, kF_X8_55⟩
theorem fr_X8_58 : FR RX8 58 7 28 := ⟨RX8, TX8, 31, rfl, by decide, inW8, kF_X8_58⟩
theorem fr_X8_61 : FR RX8 61 7 30 := ⟨RX8, TX8, 31, rfl, by decide, inW8, kF_X8_61⟩
theorem fr_X8_217 : FR RX8 217 7 14 := ⟨RX8, TX8, 31, rfl, by decide, inW8, kF_X8_217⟩
theorem fw_X8_217 : FW RX8 217 7 14 .int := ⟨RX8, TX8, 31, tyX8, rfl, by decide, inW8, kF_X8_217, tyX8_ok, nmX8, rfl, by decide +kernel⟩
theorem fr_X8_229 : FR RX8 229 7 16 := ⟨RX8, TX8, 31, rfl, by decide, inW8, kF_X8_229⟩
theorem fw_X8_229 : FW RX8 229 7 16 .int := ⟨RX8, TX8, 31, tyX8, rfl, by decide, inW8, kF_X8_229, tyX8_ok, nmX8, rfl, by decide +kernel⟩
theorem fr_X8_232 : FR RX8 232 7 17 := ⟨RX8, TX8, 31, rfl, by decide, inW8, kF_X8_232⟩
theorem fw_X8_232 : FW RX8 232 7 17 .int := ⟨RX8, TX8, 31, tyX8, rfl, by decide, inW8, kF_X8_232, tyX8_ok, nmX8, rfl, by decide +kernel⟩
theorem fr_X8_235 : FR RX8 235 7 15 := ⟨RX8, TX8, 31, rfl, by decide, inW8, kF_X8_235⟩
theorem fw_X8_235 : FW RX8 235 7 15 .int := ⟨RX8, TX8, 31, tyX8, rfl, by decide, inW8, kF_X8_235, tyX8_ok, nmX8, rfl, by decide +kernel⟩
theorem fr_X8_241 : FR RX8 241 7 19 := ⟨RX8, TX8, 31, rfl, by decide, inW8, kF_X8_241⟩
theorem fw_X8_241 : FW RX8 241 7 19 .int := ⟨RX8, TX8, 31, tyX8, rfl, by decide, inW8, kF_X8_241, tyX8_ok, nmX8, rfl, by decide +kernel⟩
theorem fr_X8_247 : FR RX8 247 7 18 := ⟨RX8, TX8, 31, rfl, by decide, inW8, kF_X8_247⟩
theorem fw_X8_247 : FW RX8 247 7 18 .int := ⟨RX8, TX8, 31, tyX8, rfl, by decide, inW8, kF_X8_247, tyX8_ok, nmX8, rfl, by decide +kernel⟩
theorem fr_X8_254 : FR RX8 254 7 23 := ⟨RX8, TX8, 31, rfl, by decide, inW8, kF_X8_254⟩
theorem fw_X8_254 : FW RX8 254 7 23 .int := ⟨RX8, TX8, 31, tyX8, rfl, by decide, inW8, kF_X8_254, tyX8_ok, nmX8, rfl, by decide +kernel⟩
theorem fr_X8_257 : FR RX8 257 7 22 := ⟨RX8, TX8, 31, rfl, by decide, inW8, kF_X8_257⟩
theorem fw_X8_257 : FW RX8 257 7 22 .int := ⟨RX8, TX8, 31, tyX8, rfl, by decide, inW8, kF_X8_257, tyX8_ok, nmX8, rfl, by decide +kernel⟩
theorem fr_X8_284 : FR RX8 284 7 24 := ⟨RX8, TX8, 31, rfl, by decide, inW8, kF_X8_284⟩
theorem fw_X8_284 : FW RX8 284 7 24 .int := ⟨RX8, TX8, 31, tyX8, rfl, by decide, inW8, kF_X8_284, tyX8_ok, nmX8, rfl, by decide +kernel⟩
theorem fr_X8_290 : FR RX8 290 7 21 := ⟨RX8, TX8, 31, rfl, by decide, inW8, kF_X8_290⟩
theorem fw_X8_290 : FW RX8 290 7 21 .int := ⟨RX8, TX8, 31, tyX8, rfl, by decide, inW8, kF_X8_290, tyX8_ok, nmX8, rfl, by decide +kernel⟩
theorem fr_X8_293 : FR RX8 293 7 20 := ⟨RX8, TX8, 31, rfl, by decide, inW8, kF_X8_293⟩
theorem fw_X8_293 : FW RX8 293 7 20 .int := ⟨RX8, TX8, 31, tyX8, rfl, by decide, inW8, kF_X8_293, tyX8_ok, nmX8, rfl, by decide +kernel⟩
theorem fr_X8_334 : FR RX8 334 7 29 := ⟨RX8, TX8, 31, rfl, by decide, inW8, kF_X8_334⟩
theorem fw_X8_334 : FW RX8 334 7 29 .int := ⟨RX8, TX8, 31, tyX8, rfl, by decide, inW8, kF_X8_334, tyX8_ok, nmX8, rfl, by decide +kernel⟩
theorem fr_X8_339 : FR RX8 339 7 3 := ⟨RX8, TX8, 31, rfl, by decide, inW8, kF_X8_339⟩
theorem fw_X8_339 : FW RX8 339 7 3 .boolean := ⟨RX8, TX8, 31, tyX8, rfl, by decide, inW8, kF_X8_339, tyX8_ok, nmX8, rfl, by decide +kernel⟩
theorem mi_X7_person : MI yX7_person cX7_person 4 (some .int) 3 := ⟨kC_X7_person, kI_X7, by decide +kernel, by decide +kernel, by decide +kernel⟩
theorem mv_X7_person : MV yX7_person := ⟨kN_X7_person, kV_X7_person⟩
theorem mi_X7_outside : MI yX7_outside cX7_outside 3 (some .boolean) 3 := ⟨kC_X7_outside, kI_X7, by decide +kernel, by decide +kernel, by decide +kernel⟩
theorem ms_X7_outside : MS yX7_outside := kS_X7_outside
theorem mi_X6_join : MI yX6_join cX6_join 4 none 3 := ⟨kC_X6_join, kI_X6, by decide +kernel, by decide +kernel, by decide +kernel⟩
theorem mv_X6_join : MV yX6_join := ⟨kN_X6_join, kV_X6_join⟩
theorem mi_X7_told : MI yX7_told cX7_told 3 (some .int) 2 := ⟨kC_X7_told, kI_X7, by decide +kernel, by decide +kernel, by decide +kernel⟩
theorem mv_X7_told : MV yX7_told := ⟨kN_X7_told, kV_X7_told⟩
theorem mi_X7_isNobody : MI yX7_isNobody cX7_isNobody 2 (some .boolean) 1 := ⟨kC_X7_isNobody, kI_X7, by decide +kernel, by decide +kernel, by decide +kernel⟩
theorem mv_X7_isNobody : MV yX7_isNobody := ⟨kN_X7_isNobody, kV_X7_isNobody⟩
theorem mi_X6_mindOf : MI yX6_mindOf cX6_mindOf 2 (some .int) 1 := ⟨kC_X6_mindOf, kI_X6, by decide +kernel, by decide +kernel, by decide +kernel⟩
theorem mv_X6_mindOf : MV yX6_mindOf := ⟨kN_X6_mindOf, kV_X6_mindOf⟩
theorem mi_X6_offOf : MI yX6_offOf cX6_offOf 2 (some .int) 1 := ⟨kC_X6_offOf, kI_X6, by decide +kernel, by decide +kernel, by decide +kernel⟩
theorem mv_X6_offOf : MV yX6_offOf := ⟨kN_X6_offOf, kV_X6_offOf⟩
theorem mi_X6_off : MI yX6_off cX6_off 3 (some .int) 2 := ⟨kC_X6_off, kI_X6, by decide +kernel, by decide +kernel, by decide +kernel⟩
theorem mv_X6_off : MV yX6_off := ⟨kN_X6_off, kV_X6_off⟩
theorem mi_X6_offAmong : MI yX6_offAmong cX6_offAmong 2 (some .int) 2 := ⟨kC_X6_offAmong, kI_X6, by decide +kernel, by decide +kernel, by decide +kernel⟩
theorem ms_X6_offAmong : MS yX6_offAmong := kS_X6_offAmong
theorem mi_J6_bitCount_0f7a4 : MI yJ6_bitCount_0f7a4 cJ6_bitCount_0f7a4 1 (some .int) 1 := ⟨kC_J6_bitCount_0f7a4, kI_J6, by decide +kernel, by decide +kernel, by decide +kernel⟩
theorem ms_J6_bitCount_0f7a4 : MS yJ6_bitCount_0f7a4 := kS_J6_bitCount_0f7a4
theorem mi_X6_owes : MI yX6_owes cX6_owes 5 (some .int) 1 := ⟨kC_X6_owes, kI_X6, by decide +kernel, by decide +kernel, by decide +kernel⟩
theorem mv_X6_owes : MV yX6_owes := ⟨kN_X6_owes, kV_X6_owes⟩
theorem mi_X0_counts : MI yX0_counts cX0_counts 4 (some .int) 2 := ⟨kC_X0_counts, kI_X0, by decide +kernel, by decide +kernel, by decide +kernel⟩
theorem mv_X0_counts : MV yX0_counts := ⟨kN_X0_counts, kV_X0_counts⟩
theorem mi_X0_gives : MI yX0_gives cX0_gives 9 (some .int) 4 := ⟨kC_X0_gives, kI_X0, by decide +kernel, by decide +kernel, by decide +kernel⟩
theorem mv_X0_gives : MV yX0_gives := ⟨kN_X0_gives, kV_X0_gives⟩
theorem mi_X0_leaf : MI yX0_leaf cX0_leaf 4 (some .int) 4 := ⟨kC_X0_leaf, kI_X0, by decide +kernel, by decide +kernel, by decide +kernel⟩
theorem ms_X0_leaf : MS yX0_leaf := kS_X0_leaf
theorem mi_X0_joined : MI yX0_joined cX0_joined 3 (some .int) 3 := ⟨kC_X0_joined, kI_X0, by decide +kernel, by decide +kernel, by decide +kernel⟩
theorem ms_X0_joined : MS yX0_joined := kS_X0_joined
theorem mi_X1_owes : MI yX1_owes cX1_owes 2 (some .int) 2 := ⟨kC_X1_owes, kI_X1, by decide +kernel, by decide +kernel, by decide +kernel⟩
theorem ms_X1_owes : MS yX1_owes := kS_X1_owes
theorem mi_X6_asks : MI yX6_asks cX6_asks 2 (some .int) 1 := ⟨kC_X6_asks, kI_X6, by decide +kernel, by decide +kernel, by decide +kernel⟩
theorem mv_X6_asks : MV yX6_asks := ⟨kN_X6_asks, kV_X6_asks⟩
theorem mi_X1_asks : MI yX1_asks cX1_asks 2 (some .int) 2 := ⟨kC_X1_asks, kI_X1, by decide +kernel, by decide +kernel, by decide +kernel⟩
theorem ms_X1_asks : MS yX1_asks := kS_X1_asks
theorem mi_X1_worth : MI yX1_worth cX1_worth 2 (some .int) 2 := ⟨kC_X1_worth, kI_X1, by decide +kernel, by decide +kernel, by decide +kernel⟩
theorem ms_X1_worth : MS yX1_worth := kS_X1_worth
theorem mi_X7_as : MI yX7_as cX7_as 3 (some .int) 2 := ⟨kC_X7_as, kI_X7, by decide +kernel, by decide +kernel, by decide +kernel⟩
theorem mv_X7_as : MV yX7_as := ⟨kN_X7_as, kV_X7_as⟩
theorem mi_X1_isOf : MI yX1_isOf cX1_isOf 4 (some .boolean) 2 := ⟨kC_X1_isOf, kI_X1, by decide +kernel, by decide +kernel, by decide +kernel⟩
theorem ms_X1_isOf : MS yX1_isOf := kS_X1_isOf
theorem mi_X7_turns : MI yX7_turns cX7_turns 4 (some .int) 2 := ⟨kC_X7_turns, kI_X7, by decide +kernel, by decide +kernel, by decide +kernel⟩
theorem mv_X7_turns : MV yX7_turns := ⟨kN_X7_turns, kV_X7_turns⟩
theorem mi_X7_set : MI yX7_set cX7_set 4 (some .int) 3 := ⟨kC_X7_set, kI_X7, by decide +kernel, by decide +kernel, by decide +kernel⟩
theorem mv_X7_set : MV yX7_set := ⟨kN_X7_set, kV_X7_set⟩
theorem mi_X7_setMind : MI yX7_setMind cX7_setMind 4 (some .int) 2 := ⟨kC_X7_setMind, kI_X7, by decide +kernel, by decide +kernel, by decide +kernel⟩
theorem mv_X7_setMind : MV yX7_setMind := ⟨kN_X7_setMind, kV_X7_setMind⟩
theorem mi_X6_flip : MI yX6_flip cX6_flip 2 none 1 := ⟨kC_X6_flip, kI_X6, by decide +kernel, by decide +kernel, by decide +kernel⟩
theorem mv_X6_flip : MV yX6_flip := ⟨kN_X6_flip, kV_X6_flip⟩
theorem mi_X7_setPrice : MI yX7_setPrice cX7_setPrice 4 (some .int) 2 := ⟨kC_X7_setPrice, kI_X7, by decide +kernel, by decide +kernel, by decide +kernel⟩
theorem mv_X7_setPrice : MV yX7_setPrice := ⟨kN_X7_setPrice, kV_X7_setPrice⟩
theorem mi_X7_setPurse : MI yX7_setPurse cX7_setPurse 4 (some .int) 2 := ⟨kC_X7_setPurse, kI_X7, by decide +kernel, by decide +kernel, by decide +kernel⟩
theorem mv_X7_setPurse : MV yX7_setPurse := ⟨kN_X7_setPurse, kV_X7_setPurse⟩
theorem mi_X7_friends : MI yX7_friends cX7_friends 5 (some .int) 3 := ⟨kC_X7_friends, kI_X7, by decide +kernel, by decide +kernel, by decide +kernel⟩
theorem mv_X7_friends : MV yX7_friends := ⟨kN_X7_friends, kV_X7_friends⟩
theorem mi_X6_areFriends : MI yX6_areFriends cX6_areFriends 3 (some .boolean) 2 := ⟨kC_X6_areFriends, kI_X6, by decide +kernel, by decide +kernel, by decide +kernel⟩
theorem mv_X6_areFriends : MV yX6_areFriends := ⟨kN_X6_areFriends, kV_X6_areFriends⟩
theorem mi_X7_rule : MI yX7_rule cX7_rule 4 (some .int) 2 := ⟨kC_X7_rule, kI_X7, by decide +kernel, by decide +kernel, by decide +kernel⟩
theorem mv_X7_rule : MV yX7_rule := ⟨kN_X7_rule, kV_X7_rule⟩
theorem mi_X7_deal : MI yX7_deal cX7_deal 7 (some .int) 1 := ⟨kC_X7_deal, kI_X7, by decide +kernel, by decide +kernel, by decide +kernel⟩
theorem mv_X7_deal : MV yX7_deal := ⟨kN_X7_deal, kV_X7_deal⟩
theorem mi_X6_draw : MI yX6_draw cX6_draw 1 (some .int) 0 := ⟨kC_X6_draw, kI_X6, by decide +kernel, by decide +kernel, by decide +kernel⟩
theorem mv_X6_draw : MV yX6_draw := ⟨kN_X6_draw, kV_X6_draw⟩
theorem mi_X7_seed : MI yX7_seed cX7_seed 3 (some .int) 1 := ⟨kC_X7_seed, kI_X7, by decide +kernel, by decide +kernel, by decide +kernel⟩
theorem mv_X7_seed : MV yX7_seed := ⟨kN_X7_seed, kV_X7_seed⟩
theorem mi_X7_town : MI yX7_town cX7_town 2 (some .int) 1 := ⟨kC_X7_town, kI_X7, by decide +kernel, by decide +kernel, by decide +kernel⟩
theorem mv_X7_town : MV yX7_town := ⟨kN_X7_town, kV_X7_town⟩
theorem mi_X6_offTogether : MI yX6_offTogether cX6_offTogether 3 (some .int) 0 := ⟨kC_X6_offTogether, kI_X6, by decide +kernel, by decide +kernel, by decide +kernel⟩
theorem mv_X6_offTogether : MV yX6_offTogether := ⟨kN_X6_offTogether, kV_X6_offTogether⟩
theorem mi_X6_unruly : MI yX6_unruly cX6_unruly 4 (some .int) 1 := ⟨kC_X6_unruly, kI_X6, by decide +kernel, by decide +kernel, by decide +kernel⟩
theorem mv_X6_unruly : MV yX6_unruly := ⟨kN_X6_unruly, kV_X6_unruly⟩
theorem mi_X6_oddOnes : MI yX6_oddOnes cX6_oddOnes 3 (some .int) 0 := ⟨kC_X6_oddOnes, kI_X6, by decide +kernel, by decide +kernel, by decide +kernel⟩
theorem mv_X6_oddOnes : MV yX6_oddOnes := ⟨kN_X6_oddOnes, kV_X6_oddOnes⟩
theorem mi_X7_ways : MI yX7_ways cX7_ways 1 (some .int) 0 := ⟨kC_X7_ways, kI_X7, by decide +kernel, by decide +kernel, by decide +kernel⟩
theorem mv_X7_ways : MV yX7_ways := ⟨kN_X7_ways, kV_X7_ways⟩
theorem mi_X2_scan : MI yX2_scan cX2_scan 5 none 1 := ⟨kC_X2_scan, kI_X2, by decide +kernel, by decide +kernel, by decide +kernel⟩
theorem mv_X2_scan : MV yX2_scan := ⟨kN_X2_scan, kV_X2_scan⟩
theorem mi_X6_fixedOnes : MI yX6_fixedOnes cX6_fixedOnes 3 (some .int) 0 := ⟨kC_X6_fixedOnes, kI_X6, by decide +kernel, by decide +kernel, by decide +kernel⟩
theorem mv_X6_fixedOnes : MV yX6_fixedOnes := ⟨kN_X6_fixedOnes, kV_X6_fixedOnes⟩
theorem mi_X2_howMany : MI yX2_howMany cX2_howMany 3 (some .int) 0 := ⟨kC_X2_howMany, kI_X2, by decide +kernel, by decide +kernel, by decide +kernel⟩
theorem mv_X2_howMany : MV yX2_howMany := ⟨kN_X2_howMany, kV_X2_howMany⟩
theorem mi_X7_minds : MI yX7_minds cX7_minds 2 (some .int) 1 := ⟨kC_X7_minds, kI_X7, by decide +kernel, by decide +kernel, by decide +kernel⟩
theorem mv_X7_minds : MV yX7_minds := ⟨kN_X7_minds, kV_X7_minds⟩
theorem mi_X2_chosen : MI yX2_chosen cX2_chosen 7 (some .int) 2 := ⟨kC_X2_chosen, kI_X2, by decide +kernel, by decide +kernel, by decide +kernel⟩
theorem mv_X2_chosen : MV yX2_chosen := ⟨kN_X2_chosen, kV_X2_chosen⟩
theorem mi_X2_cost : MI yX2_cost cX2_cost 3 (some .int) 3 := ⟨kC_X2_cost, kI_X2, by decide +kernel, by decide +kernel, by decide +kernel⟩
theorem ms_X2_cost : MS yX2_cost := kS_X2_cost
theorem mi_X2_priceOf : MI yX2_priceOf cX2_priceOf 4 (some .int) 2 := ⟨kC_X2_priceOf, kI_X2, by decide +kernel, by decide +kernel, by decide +kernel⟩
theorem ms_X2_priceOf : MS yX2_priceOf := kS_X2_priceOf
theorem mi_X7_freedom : MI yX7_freedom cX7_freedom 1 (some .int) 0 := ⟨kC_X7_freedom, kI_X7, by decide +kernel, by decide +kernel, by decide +kernel⟩
theorem mv_X7_freedom : MV yX7_freedom := ⟨kN_X7_freedom, kV_X7_freedom⟩
theorem mi_X2_free : MI yX2_free cX2_free 4 (some .int) 0 := ⟨kC_X2_free, kI_X2, by decide +kernel, by decide +kernel, by decide +kernel⟩
theorem mv_X2_free : MV yX2_free := ⟨kN_X2_free, kV_X2_free⟩
theorem mi_X7_together : MI yX7_together cX7_together 1 (some .int) 0 := ⟨kC_X7_together, kI_X7, by decide +kernel, by decide +kernel, by decide +kernel⟩
theorem mv_X7_together : MV yX7_together := ⟨kN_X7_together, kV_X7_together⟩
theorem mi_X2_nearest : MI yX2_nearest cX2_nearest 5 (some .int) 1 := ⟨kC_X2_nearest, kI_X2, by decide +kernel, by decide +kernel, by decide +kernel⟩
theorem mv_X2_nearest : MV yX2_nearest := ⟨kN_X2_nearest, kV_X2_nearest⟩
theorem mi_X7_best : MI yX7_best cX7_best 9 (some .int) 2 := ⟨kC_X7_best, kI_X7, by decide +kernel, by decide +kernel, by decide +kernel⟩
theorem mv_X7_best : MV yX7_best := ⟨kN_X7_best, kV_X7_best⟩
theorem mi_X2_howManyTurned : MI yX2_howManyTurned cX2_howManyTurned 9 (some .int) 3 := ⟨kC_X2_howManyTurned, kI_X2, by decide +kernel, by decide +kernel, by decide +kernel⟩
theorem mv_X2_howManyTurned : MV yX2_howManyTurned := ⟨kN_X2_howManyTurned, kV_X2_howManyTurned⟩
theorem mi_X7_years : MI yX7_years cX7_years 3 (some .int) 1 := ⟨kC_X7_years, kI_X7, by decide +kernel, by decide +kernel, by decide +kernel⟩
theorem mv_X7_years : MV yX7_years := ⟨kN_X7_years, kV_X7_years⟩
theorem mi_X6_pass : MI yX6_pass cX6_pass 3 none 1 := ⟨kC_X6_pass, kI_X6, by decide +kernel, by decide +kernel, by decide +kernel⟩
theorem mv_X6_pass : MV yX6_pass := ⟨kN_X6_pass, kV_X6_pass⟩
theorem mi_X6_payDues : MI yX6_payDues cX6_payDues 2 none 0 := ⟨kC_X6_payDues, kI_X6, by decide +kernel, by decide +kernel, by decide +kernel⟩
theorem mv_X6_payDues : MV yX6_payDues := ⟨kN_X6_payDues, kV_X6_payDues⟩
theorem mi_X6_pay : MI yX6_pay cX6_pay 3 none 2 := ⟨kC_X6_pay, kI_X6, by decide +kernel, by decide +kernel, by decide +kernel⟩
theorem mv_X6_pay : MV yX6_pay := ⟨kN_X6_pay, kV_X6_pay⟩
theorem mi_X6_lookedAt : MI yX6_lookedAt cX6_lookedAt 1 (some .int) 0 := ⟨kC_X6_lookedAt, kI_X6, by decide +kernel, by decide +kernel, by decide +kernel⟩
theorem mv_X6_lookedAt : MV yX6_lookedAt := ⟨kN_X6_lookedAt, kV_X6_lookedAt⟩
theorem mi_X6_worst : MI yX6_worst cX6_worst 4 (some .int) 0 := ⟨kC_X6_worst, kI_X6, by decide +kernel, by decide +kernel, by decide +kernel⟩
theorem mv_X6_worst : MV yX6_worst := ⟨kN_X6_worst, kV_X6_worst⟩
theorem mi_X6_persuade : MI yX6_persuade cX6_persuade 3 none 1 := ⟨kC_X6_persuade, kI_X6, by decide +kernel, by decide +kernel, by decide +kernel⟩
theorem mv_X6_persuade : MV yX6_persuade := ⟨kN_X6_persuade, kV_X6_persuade⟩
theorem mi_X6_offOfAll : MI yX6_offOfAll cX6_offOfAll 5 (some .int) 2 := ⟨kC_X6_offOfAll, kI_X6, by decide +kernel, by decide +kernel, by decide +kernel⟩
theorem mv_X6_offOfAll : MV yX6_offOfAll := ⟨kN_X6_offOfAll, kV_X6_offOfAll⟩
theorem mi_X6_haveWhim : MI yX6_haveWhim cX6_haveWhim 2 none 0 := ⟨kC_X6_haveWhim, kI_X6, by decide +kernel, by decide +kernel, by decide +kernel⟩
theorem mv_X6_haveWhim : MV yX6_haveWhim := ⟨kN_X6_haveWhim, kV_X6_haveWhim⟩
theorem mi_X7_behind : MI yX7_behind cX7_behind 3 (some .int) 2 := ⟨kC_X7_behind, kI_X7, by decide +kernel, by decide +kernel, by decide +kernel⟩
theorem mv_X7_behind : MV yX7_behind := ⟨kN_X7_behind, kV_X7_behind⟩
theorem mi_X6_become : MI yX6_become cX6_become 2 none 1 := ⟨kC_X6_become, kI_X6, by decide +kernel, by decide +kernel, by decide +kernel⟩
theorem mv_X6_become : MV yX6_become := ⟨kN_X6_become, kV_X6_become⟩
theorem mi_X7_settles : MI yX7_settles cX7_settles 2 (some .int) 0 := ⟨kC_X7_settles, kI_X7, by decide +kernel, by decide +kernel, by decide +kernel⟩
theorem mv_X7_settles : MV yX7_settles := ⟨kN_X7_settles, kV_X7_settles⟩
theorem mi_X7_won : MI yX7_won cX7_won 7 (some .int) 2 := ⟨kC_X7_won, kI_X7, by decide +kernel, by decide +kernel, by decide +kernel⟩
theorem mv_X7_won : MV yX7_won := ⟨kN_X7_won, kV_X7_won⟩
theorem mi_X7_lied : MI yX7_lied cX7_lied 7 (some .int) 2 := ⟨kC_X7_lied, kI_X7, by decide +kernel, by decide +kernel, by decide +kernel⟩
theorem mv_X7_lied : MV yX7_lied := ⟨kN_X7_lied, kV_X7_lied⟩
theorem mi_X7_isNoSheet : MI yX7_isNoSheet cX7_isNoSheet 1 (some .boolean) 1 := ⟨kC_X7_isNoSheet, kI_X7, by decide +kernel, by decide +kernel, by decide +kernel⟩
theorem ms_X7_isNoSheet : MS yX7_isNoSheet := kS_X7_isNoSheet
theorem mi_X4_isMissing : MI yX4_isMissing cX4_isMissing 1 (some .boolean) 0 := ⟨kC_X4_isMissing, kI_X4, by decide +kernel, by decide +kernel, by decide +kernel⟩
theorem mv_X4_isMissing : MV yX4_isMissing := ⟨kN_X4_isMissing, kV_X4_isMissing⟩
theorem mi_X7_differences : MI yX7_differences cX7_differences 6 (some .int) 2 := ⟨kC_X7_differences, kI_X7, by decide +kernel, by decide +kernel, by decide +kernel⟩
theorem mv_X7_differences : MV yX7_differences := ⟨kN_X7_differences, kV_X7_differences⟩
theorem mi_X4_isNumber : MI yX4_isNumber cX4_isNumber 2 (some .boolean) 1 := ⟨kC_X4_isNumber, kI_X4, by decide +kernel, by decide +kernel, by decide +kernel⟩
theorem mv_X4_isNumber : MV yX4_isNumber := ⟨kN_X4_isNumber, kV_X4_isNumber⟩
theorem mi_X4_hasNo : MI yX4_hasNo cX4_hasNo 2 (some .boolean) 1 := ⟨kC_X4_hasNo, kI_X4, by decide +kernel, by decide +kernel, by decide +kernel⟩
theorem mv_X4_hasNo : MV yX4_hasNo := ⟨kN_X4_hasNo, kV_X4_hasNo⟩
theorem mi_X7_fee : MI yX7_fee cX7_fee 2 (some .int) 0 := ⟨kC_X7_fee, kI_X7, by decide +kernel, by decide +kernel, by decide +kernel⟩
theorem mv_X7_fee : MV yX7_fee := ⟨kN_X7_fee, kV_X7_fee⟩
theorem mi_X7_fine : MI yX7_fine cX7_fine 4 (some .int) 1 := ⟨kC_X7_fine, kI_X7, by decide +kernel, by decide +kernel, by decide +kernel⟩
theorem mv_X7_fine : MV yX7_fine := ⟨kN_X7_fine, kV_X7_fine⟩
theorem mi_X7_feed : MI yX7_feed cX7_feed 4 (some .int) 3 := ⟨kC_X7_feed, kI_X7, by decide +kernel, by decide +kernel, by decide +kernel⟩
theorem mv_X7_feed : MV yX7_feed := ⟨kN_X7_feed, kV_X7_feed⟩
theorem mi_X3_append : MI yX3_append cX3_append 3 none 1 := ⟨kC_X3_append, kI_X3, by decide +kernel, by decide +kernel, by decide +kernel⟩
theorem mv_X3_append : MV yX3_append := ⟨kN_X3_append, kV_X3_append⟩
theorem mi_X7_trim : MI yX7_trim cX7_trim 2 (some .int) 1 := ⟨kC_X7_trim, kI_X7, by decide +kernel, by decide +kernel, by decide +kernel⟩
theorem mv_X7_trim : MV yX7_trim := ⟨kN_X7_trim, kV_X7_trim⟩
theorem mi_X7_text : MI yX7_text cX7_text 3 (some .int) 0 := ⟨kC_X7_text, kI_X7, by decide +kernel, by decide +kernel, by decide +kernel⟩
theorem mv_X7_text : MV yX7_text := ⟨kN_X7_text, kV_X7_text⟩
theorem mi_X3_read : MI yX3_read cX3_read 1 (some .boolean) 0 := ⟨kC_X3_read, kI_X3, by decide +kernel, by decide +kernel, by decide +kernel⟩
theorem mv_X3_read : MV yX3_read := ⟨kN_X3_read, kV_X3_read⟩
theorem mi_X3_next : MI yX3_next cX3_next 4 none 0 := ⟨kC_X3_next, kI_X3, by decide +kernel, by decide +kernel, by decide +kernel⟩
theorem mv_X3_next : MV yX3_next := ⟨kN_X3_next, kV_X3_next⟩
theorem mi_X3_sortAt : MI yX3_sortAt cX3_sortAt 3 (some .int) 1 := ⟨kC_X3_sortAt, kI_X3, by decide +kernel, by decide +kernel, by decide +kernel⟩
theorem mv_X3_sortAt : MV yX3_sortAt := ⟨kN_X3_sortAt, kV_X3_sortAt⟩
theorem mi_X3_keyHere : MI yX3_keyHere cX3_keyHere 1 (some .int) 0 := ⟨kC_X3_keyHere, kI_X3, by decide +kernel, by decide +kernel, by decide +kernel⟩
theorem mv_X3_keyHere : MV yX3_keyHere := ⟨kN_X3_keyHere, kV_X3_keyHere⟩
theorem mi_X3_isHere : MI yX3_isHere cX3_isHere 3 (some .boolean) 1 := ⟨kC_X3_isHere, kI_X3, by decide +kernel, by decide +kernel, by decide +kernel⟩
theorem mv_X3_isHere : MV yX3_isHere := ⟨kN_X3_isHere, kV_X3_isHere⟩
theorem mi_J0_length_8abf5 : MI yJ0_length_8abf5 cJ0_length_8abf5 1 (some .int) 0 := ⟨kC_J0_length_8abf5, kI_J0, by decide +kernel, by decide +kernel, by decide +kernel⟩
theorem mv_J0_length_8abf5 : MV yJ0_length_8abf5 := ⟨kN_J0_length_8abf5, kV_J0_length_8abf5⟩
theorem mi_J0_coder_7d493 : MI yJ0_coder_7d493 cJ0_coder_7d493 1 (some .byte) 0 := ⟨kC_J0_coder_7d493, kI_J0, by decide +kernel, by decide +kernel, by decide +kernel⟩
theorem mv_J0_coder_7d493 : MV yJ0_coder_7d493 := ⟨kN_J0_coder_7d493, kV_J0_coder_7d493⟩
theorem mi_J0_charAt_5068e : MI yJ0_charAt_5068e cJ0_charAt_5068e 2 (some .char) 1 := ⟨kC_J0_charAt_5068e, kI_J0, by decide +kernel, by decide +kernel, by decide +kernel⟩
theorem mv_J0_charAt_5068e : MV yJ0_charAt_5068e := ⟨kN_J0_charAt_5068e, kV_J0_charAt_5068e⟩
theorem mi_J0_isLatin1_aae02 : MI yJ0_isLatin1_aae02 cJ0_isLatin1_aae02 1 (some .boolean) 0 := ⟨kC_J0_isLatin1_aae02, kI_J0, by decide +kernel, by decide +kernel, by decide +kernel⟩
theorem mv_J0_isLatin1_aae02 : MV yJ0_isLatin1_aae02 := ⟨kN_J0_isLatin1_aae02, kV_J0_isLatin1_aae02⟩
theorem mi_J1_charAt_3b067 : MI yJ1_charAt_3b067 cJ1_charAt_3b067 2 (some .char) 2 := ⟨kC_J1_charAt_3b067, kI_J1, by decide +kernel, by decide +kernel, by decide +kernel⟩
theorem ms_J1_charAt_3b067 : MS yJ1_charAt_3b067 := kS_J1_charAt_3b067
theorem mi_J0_checkIndex_df160 : MI yJ0_checkIndex_df160 cJ0_checkIndex_df160 2 none 2 := ⟨kC_J0_checkIndex_df160, kI_J0, by decide +kernel, by decide +kernel, by decide +kernel⟩
theorem ms_J0_checkIndex_df160 : MS yJ0_checkIndex_df160 := kS_J0_checkIndex_df160
theorem mi_J3_checkIndex_8e157 : MI yJ3_checkIndex_8e157 cJ3_checkIndex_8e157 3 (some .int) 3 := ⟨kC_J3_checkIndex_8e157, kI_J3, by decide +kernel, by decide +kernel, by decide +kernel⟩
theorem ms_J3_checkIndex_8e157 : MS yJ3_checkIndex_8e157 := kS_J3_checkIndex_8e157
theorem mi_J2_charAt_3b067 : MI yJ2_charAt_3b067 cJ2_charAt_3b067 2 (some .char) 2 := ⟨kC_J2_charAt_3b067, kI_J2, by decide +kernel, by decide +kernel, by decide +kernel⟩
theorem ms_J2_charAt_3b067 : MS yJ2_charAt_3b067 := kS_J2_charAt_3b067
theorem mi_J2_checkIndex_2214a : MI yJ2_checkIndex_2214a cJ2_checkIndex_2214a 2 none 2 := ⟨kC_J2_checkIndex_2214a, kI_J2, by decide +kernel, by decide +kernel, by decide +kernel⟩
theorem ms_J2_checkIndex_2214a : MS yJ2_checkIndex_2214a := kS_J2_checkIndex_2214a
theorem mi_J2_length_9d52b : MI yJ2_length_9d52b cJ2_length_9d52b 1 (some .int) 1 := ⟨kC_J2_length_9d52b, kI_J2, by decide +kernel, by decide +kernel, by decide +kernel⟩
theorem ms_J2_length_9d52b : MS yJ2_length_9d52b := kS_J2_length_9d52b
theorem mi_J2_getChar_3b067 : MI yJ2_getChar_3b067 cJ2_getChar_3b067 2 (some .char) 2 := ⟨kC_J2_getChar_3b067, kI_J2, by decide +kernel, by decide +kernel, by decide +kernel⟩
theorem ms_J2_getChar_3b067 : MS yJ2_getChar_3b067 := kS_J2_getChar_3b067
theorem mi_X3_level : MI yX3_level cX3_level 6 (some .boolean) 3 := ⟨kC_X3_level, kI_X3, by decide +kernel, by decide +kernel, by decide +kernel⟩
theorem mv_X3_level : MV yX3_level := ⟨kN_X3_level, kV_X3_level⟩
theorem mi_X3_piece : MI yX3_piece cX3_piece 3 (some .boolean) 2 := ⟨kC_X3_piece, kI_X3, by decide +kernel, by decide +kernel, by decide +kernel⟩
theorem mv_X3_piece : MV yX3_piece := ⟨kN_X3_piece, kV_X3_piece⟩
theorem mi_X3_negated : MI yX3_negated cX3_negated 3 (some .boolean) 2 := ⟨kC_X3_negated, kI_X3, by decide +kernel, by decide +kernel, by decide +kernel⟩
theorem mv_X3_negated : MV yX3_negated := ⟨kN_X3_negated, kV_X3_negated⟩
theorem mi_X3_put : MI yX3_put cX3_put 2 none 1 := ⟨kC_X3_put, kI_X3, by decide +kernel, by decide +kernel, by decide +kernel⟩
theorem mv_X3_put : MV yX3_put := ⟨kN_X3_put, kV_X3_put⟩
theorem mi_X3_enclosed : MI yX3_enclosed cX3_enclosed 3 (some .boolean) 2 := ⟨kC_X3_enclosed, kI_X3, by decide +kernel, by decide +kernel, by decide +kernel⟩
theorem mv_X3_enclosed : MV yX3_enclosed := ⟨kN_X3_enclosed, kV_X3_enclosed⟩
theorem mi_X3_number : MI yX3_number cX3_number 3 (some .boolean) 0 := ⟨kC_X3_number, kI_X3, by decide +kernel, by decide +kernel, by decide +kernel⟩
theorem mv_X3_number : MV yX3_number := ⟨kN_X3_number, kV_X3_number⟩
theorem mi_X3_name : MI yX3_name cX3_name 3 (some .boolean) 0 := ⟨kC_X3_name, kI_X3, by decide +kernel, by decide +kernel, by decide +kernel⟩
theorem mv_X3_name : MV yX3_name := ⟨kN_X3_name, kV_X3_name⟩
theorem mi_J0_indexOf_0f7a4 : MI yJ0_indexOf_0f7a4 cJ0_indexOf_0f7a4 2 (some .int) 1 := ⟨kC_J0_indexOf_0f7a4, kI_J0, by decide +kernel, by decide +kernel, by decide +kernel⟩
theorem mv_J0_indexOf_0f7a4 : MV yJ0_indexOf_0f7a4 := ⟨kN_J0_indexOf_0f7a4, kV_J0_indexOf_0f7a4⟩
theorem mi_J0_indexOf_7cf53 : MI yJ0_indexOf_7cf53 cJ0_indexOf_7cf53 3 (some .int) 2 := ⟨kC_J0_indexOf_7cf53, kI_J0, by decide +kernel, by decide +kernel, by decide +kernel⟩
theorem mv_J0_indexOf_7cf53 : MV yJ0_indexOf_7cf53 := ⟨kN_J0_indexOf_7cf53, kV_J0_indexOf_7cf53⟩
theorem mi_J1_indexOf_4cfef : MI yJ1_indexOf_4cfef cJ1_indexOf_4cfef 4 (some .int) 4 := ⟨kC_J1_indexOf_4cfef, kI_J1, by decide +kernel, by decide +kernel, by decide +kernel⟩
theorem ms_J1_indexOf_4cfef : MS yJ1_indexOf_4cfef := kS_J1_indexOf_4cfef
theorem mi_J1_canEncode_9a6ad : MI yJ1_canEncode_9a6ad cJ1_canEncode_9a6ad 1 (some .boolean) 1 := ⟨kC_J1_canEncode_9a6ad, kI_J1, by decide +kernel, by decide +kernel, by decide +kernel⟩
theorem ms_J1_canEncode_9a6ad : MS yJ1_canEncode_9a6ad := kS_J1_canEncode_9a6ad
theorem mi_J1_indexOfChar_4cfef : MI yJ1_indexOfChar_4cfef cJ1_indexOfChar_4cfef 6 (some .int) 4 := ⟨kC_J1_indexOfChar_4cfef, kI_J1, by decide +kernel, by decide +kernel, by decide +kernel⟩
theorem ms_J1_indexOfChar_4cfef : MS yJ1_indexOfChar_4cfef := kS_J1_indexOfChar_4cfef
theorem mi_J2_indexOf_4cfef : MI yJ2_indexOf_4cfef cJ2_indexOf_4cfef 4 (some .int) 4 := ⟨kC_J2_indexOf_4cfef, kI_J2, by decide +kernel, by decide +kernel, by decide +kernel⟩
theorem ms_J2_indexOf_4cfef : MS yJ2_indexOf_4cfef := kS_J2_indexOf_4cfef
theorem mi_J2_indexOfChar_4cfef : MI yJ2_indexOfChar_4cfef cJ2_indexOfChar_4cfef 4 (some .int) 4 := ⟨kC_J2_indexOfChar_4cfef, kI_J2, by decide +kernel, by decide +kernel, by decide +kernel⟩
theorem ms_J2_indexOfChar_4cfef : MS yJ2_indexOfChar_4cfef := kS_J2_indexOfChar_4cfef
theorem mi_J2_checkBoundsBeginEnd_d044e : MI yJ2_checkBoundsBeginEnd_d044e cJ2_checkBoundsBeginEnd_d044e 3 none 3 := ⟨kC_J2_checkBoundsBeginEnd_d044e, kI_J2, by decide +kernel, by decide +kernel, by decide +kernel⟩
theorem ms_J2_checkBoundsBeginEnd_d044e : MS yJ2_checkBoundsBeginEnd_d044e := kS_J2_checkBoundsBeginEnd_d044e
theorem mi_J0_checkBoundsBeginEnd_23922 : MI yJ0_checkBoundsBeginEnd_23922 cJ0_checkBoundsBeginEnd_23922 3 none 3 := ⟨kC_J0_checkBoundsBeginEnd_23922, kI_J0, by decide +kernel, by decide +kernel, by decide +kernel⟩
theorem ms_J0_checkBoundsBeginEnd_23922 : MS yJ0_checkBoundsBeginEnd_23922 := kS_J0_checkBoundsBeginEnd_23922
theorem mi_J3_checkFromToIndex_8c36e : MI yJ3_checkFromToIndex_8c36e cJ3_checkFromToIndex_8c36e 4 (some .int) 4 := ⟨kC_J3_checkFromToIndex_8c36e, kI_J3, by decide +kernel, by decide +kernel, by decide +kernel⟩
theorem ms_J3_checkFromToIndex_8c36e : MS yJ3_checkFromToIndex_8c36e := kS_J3_checkFromToIndex_8c36e
theorem mi_J2_indexOfCharUnsafe_4cfef : MI yJ2_indexOfCharUnsafe_4cfef cJ2_indexOfCharUnsafe_4cfef 5 (some .int) 4 := ⟨kC_J2_indexOfCharUnsafe_4cfef, kI_J2, by decide +kernel, by decide +kernel, by decide +kernel⟩
theorem ms_J2_indexOfCharUnsafe_4cfef : MS yJ2_indexOfCharUnsafe_4cfef := kS_J2_indexOfCharUnsafe_4cfef
theorem mi_J2_indexOfSupplementary_4cfef : MI yJ2_indexOfSupplementary_4cfef cJ2_indexOfSupplementary_4cfef 7 (some .int) 4 := ⟨kC_J2_indexOfSupplementary_4cfef, kI_J2, by decide +kernel, by decide +kernel, by decide +kernel⟩
theorem ms_J2_indexOfSupplementary_4cfef : MS yJ2_indexOfSupplementary_4cfef := kS_J2_indexOfSupplementary_4cfef
theorem mi_J11_isValidCodePoint_9a6ad : MI yJ11_isValidCodePoint_9a6ad cJ11_isValidCodePoint_9a6ad 2 (some .boolean) 1 := ⟨kC_J11_isValidCodePoint_9a6ad, kI_J11, by decide +kernel, by decide +kernel, by decide +kernel⟩
theorem ms_J11_isValidCodePoint_9a6ad : MS yJ11_isValidCodePoint_9a6ad := kS_J11_isValidCodePoint_9a6ad
theorem mi_J11_highSurrogate_5068e : MI yJ11_highSurrogate_5068e cJ11_highSurrogate_5068e 1 (some .char) 1 := ⟨kC_J11_highSurrogate_5068e, kI_J11, by decide +kernel, by decide +kernel, by decide +kernel⟩
theorem ms_J11_highSurrogate_5068e : MS yJ11_highSurrogate_5068e := kS_J11_highSurrogate_5068e
theorem mi_J11_lowSurrogate_5068e : MI yJ11_lowSurrogate_5068e cJ11_lowSurrogate_5068e 1 (some .char) 1 := ⟨kC_J11_lowSurrogate_5068e, kI_J11, by decide +kernel, by decide +kernel, by decide +kernel⟩
theorem ms_J11_lowSurrogate_5068e : MS yJ11_lowSurrogate_5068e := kS_J11_lowSurrogate_5068e
theorem mi_X3_joinsHere : MI yX3_joinsHere cX3_joinsHere 2 (some .boolean) 1 := ⟨kC_X3_joinsHere, kI_X3, by decide +kernel, by decide +kernel, by decide +kernel⟩
theorem mv_X3_joinsHere : MV yX3_joinsHere := ⟨kN_X3_joinsHere, kV_X3_joinsHere⟩
theorem mi_X3_signsOf : MI yX3_signsOf cX3_signsOf 1 (some (.object "java/lang/String")) 1 := ⟨kC_X3_signsOf, kI_X3, by decide +kernel, by decide +kernel, by decide +kernel⟩
theorem ms_X3_signsOf : MS yX3_signsOf := kS_X3_signsOf
theorem mi_X0_write : MI yX0_write cX0_write 3 none 2 := ⟨kC_X0_write, kI_X0, by decide +kernel, by decide +kernel, by decide +kernel⟩
theorem mv_X0_write : MV yX0_write := ⟨kN_X0_write, kV_X0_write⟩
theorem mi_X7_textTold : MI yX7_textTold cX7_textTold 3 (some .int) 2 := ⟨kC_X7_textTold, kI_X7, by decide +kernel, by decide +kernel, by decide +kernel⟩
theorem mv_X7_textTold : MV yX7_textTold := ⟨kN_X7_textTold, kV_X7_textTold⟩
theorem mi_X7_why : MI yX7_why cX7_why 3 (some .int) 1 := ⟨kC_X7_why, kI_X7, by decide +kernel, by decide +kernel, by decide +kernel⟩
theorem mv_X7_why : MV yX7_why := ⟨kN_X7_why, kV_X7_why⟩
theorem mi_X7_sheet : MI yX7_sheet cX7_sheet 4 (some .int) 3 := ⟨kC_X7_sheet, kI_X7, by decide +kernel, by decide +kernel, by decide +kernel⟩
theorem mv_X7_sheet : MV yX7_sheet := ⟨kN_X7_sheet, kV_X7_sheet⟩
theorem mi_X4_begin : MI yX4_begin cX4_begin 4 none 2 := ⟨kC_X4_begin, kI_X4, by decide +kernel, by decide +kernel, by decide +kernel⟩
theorem mv_X4_begin : MV yX4_begin := ⟨kN_X4_begin, kV_X4_begin⟩
theorem mi_X7_mark : MI yX7_mark cX7_mark 5 (some .int) 3 := ⟨kC_X7_mark, kI_X7, by decide +kernel, by decide +kernel, by decide +kernel⟩
theorem mv_X7_mark : MV yX7_mark := ⟨kN_X7_mark, kV_X7_mark⟩
theorem mi_X7_pour : MI yX7_pour cX7_pour 7 (some .int) 1 := ⟨kC_X7_pour, kI_X7, by decide +kernel, by decide +kernel, by decide +kernel⟩
theorem mv_X7_pour : MV yX7_pour := ⟨kN_X7_pour, kV_X7_pour⟩
theorem mi_X7_reads : MI yX7_reads cX7_reads 4 (some .int) 1 := ⟨kC_X7_reads, kI_X7, by decide +kernel, by decide +kernel, by decide +kernel⟩
theorem mv_X7_reads : MV yX7_reads := ⟨kN_X7_reads, kV_X7_reads⟩
theorem mi_X7_copy : MI yX7_copy cX7_copy 8 (some .int) 5 := ⟨kC_X7_copy, kI_X7, by decide +kernel, by decide +kernel, by decide +kernel⟩
theorem mv_X7_copy : MV yX7_copy := ⟨kN_X7_copy, kV_X7_copy⟩
theorem mi_X4_lacks : MI yX4_lacks cX4_lacks 3 (some .boolean) 2 := ⟨kC_X4_lacks, kI_X4, by decide +kernel, by decide +kernel, by decide +kernel⟩
theorem mv_X4_lacks : MV yX4_lacks := ⟨kN_X4_lacks, kV_X4_lacks⟩
theorem mi_X7_lay : MI yX7_lay cX7_lay 6 (some .int) 3 := ⟨kC_X7_lay, kI_X7, by decide +kernel, by decide +kernel, by decide +kernel⟩
theorem mv_X7_lay : MV yX7_lay := ⟨kN_X7_lay, kV_X7_lay⟩
theorem mi_X7_isNoSlot : MI yX7_isNoSlot cX7_isNoSlot 1 (some .boolean) 1 := ⟨kC_X7_isNoSlot, kI_X7, by decide +kernel, by decide +kernel, by decide +kernel⟩
theorem ms_X7_isNoSlot : MS yX7_isNoSlot := kS_X7_isNoSlot
theorem mi_X4_become : MI yX4_become cX4_become 2 none 1 := ⟨kC_X4_become, kI_X4, by decide +kernel, by decide +kernel, by decide +kernel⟩
theorem mv_X4_become : MV yX4_become := ⟨kN_X4_become, kV_X4_become⟩
theorem mi_X7_ask : MI yX7_ask cX7_ask 5 (some .int) 2 := ⟨kC_X7_ask, kI_X7, by decide +kernel, by decide +kernel, by decide +kernel⟩
theorem mv_X7_ask : MV yX7_ask := ⟨kN_X7_ask, kV_X7_ask⟩
theorem mi_X5_isNot : MI yX5_isNot cX5_isNot 2 (some .int) 1 := ⟨kC_X5_isNot, kI_X5, by decide +kernel, by decide +kernel, by decide +kernel⟩
theorem mv_X5_isNot : MV yX5_isNot := ⟨kN_X5_isNot, kV_X5_isNot⟩
theorem mi_X7_item : MI yX7_item cX7_item 5 (some .int) 2 := ⟨kC_X7_item, kI_X7, by decide +kernel, by decide +kernel, by decide +kernel⟩
theorem mv_X7_item : MV yX7_item := ⟨kN_X7_item, kV_X7_item⟩
theorem mi_X7_rest : MI yX7_rest cX7_rest 4 (some .int) 2 := ⟨kC_X7_rest, kI_X7, by decide +kernel, by decide +kernel, by decide +kernel⟩
theorem mv_X7_rest : MV yX7_rest := ⟨kN_X7_rest, kV_X7_rest⟩
theorem mi_X7_tell : MI yX7_tell cX7_tell 2 (some .int) 1 := ⟨kC_X7_tell, kI_X7, by decide +kernel, by decide +kernel, by decide +kernel⟩
theorem mv_X7_tell : MV yX7_tell := ⟨kN_X7_tell, kV_X7_tell⟩
theorem mi_X7_check : MI yX7_check cX7_check 6 (some .int) 1 := ⟨kC_X7_check, kI_X7, by decide +kernel, by decide +kernel, by decide +kernel⟩
theorem mv_X7_check : MV yX7_check := ⟨kN_X7_check, kV_X7_check⟩
theorem mi_X7_keep : MI yX7_keep cX7_keep 1 (some .int) 0 := ⟨kC_X7_keep, kI_X7, by decide +kernel, by decide +kernel, by decide +kernel⟩
theorem mv_X7_keep : MV yX7_keep := ⟨kN_X7_keep, kV_X7_keep⟩
theorem mi_X7_back : MI yX7_back cX7_back 1 (some .int) 0 := ⟨kC_X7_back, kI_X7, by decide +kernel, by decide +kernel, by decide +kernel⟩
theorem mv_X7_back : MV yX7_back := ⟨kN_X7_back, kV_X7_back⟩
theorem mi_X7_count : MI yX7_count cX7_count 2 (some .int) 1 := ⟨kC_X7_count, kI_X7, by decide +kernel, by decide +kernel, by decide +kernel⟩
theorem mv_X7_count : MV yX7_count := ⟨kN_X7_count, kV_X7_count⟩
theorem mi_X8_person : MI yX8_person cX8_person 4 (some .int) 3 := ⟨kC_X8_person, kI_X8, by decide +kernel, by decide +kernel, by decide +kernel⟩
theorem mv_X8_person : MV yX8_person := ⟨kN_X8_person, kV_X8_person⟩
theorem mi_X8_isIn : MI yX8_isIn cX8_isIn 6 (some .boolean) 3 := ⟨kC_X8_isIn, kI_X8, by decide +kernel, by decide +kernel, by decide +kernel⟩
theorem ms_X8_isIn : MS yX8_isIn := kS_X8_isIn
theorem mi_X8_comes : MI yX8_comes cX8_comes 5 none 3 := ⟨kC_X8_comes, kI_X8, by decide +kernel, by decide +kernel, by decide +kernel⟩
theorem mv_X8_comes : MV yX8_comes := ⟨kN_X8_comes, kV_X8_comes⟩
theorem mi_X8_sets : MI yX8_sets cX8_sets 4 none 3 := ⟨kC_X8_sets, kI_X8, by decide +kernel, by decide +kernel, by decide +kernel⟩
theorem mv_X8_sets : MV yX8_sets := ⟨kN_X8_sets, kV_X8_sets⟩
theorem mi_X8_told : MI yX8_told cX8_told 3 (some .int) 2 := ⟨kC_X8_told, kI_X8, by decide +kernel, by decide +kernel, by decide +kernel⟩
theorem mv_X8_told : MV yX8_told := ⟨kN_X8_told, kV_X8_told⟩
theorem mi_X8_isOne : MI yX8_isOne cX8_isOne 2 (some .boolean) 1 := ⟨kC_X8_isOne, kI_X8, by decide +kernel, by decide +kernel, by decide +kernel⟩
theorem mv_X8_isOne : MV yX8_isOne := ⟨kN_X8_isOne, kV_X8_isOne⟩
theorem mi_X8_of : MI yX8_of cX8_of 3 (some .int) 2 := ⟨kC_X8_of, kI_X8, by decide +kernel, by decide +kernel, by decide +kernel⟩
theorem mv_X8_of : MV yX8_of := ⟨kN_X8_of, kV_X8_of⟩
theorem mi_X8_offOf : MI yX8_offOf cX8_offOf 2 (some .int) 1 := ⟨kC_X8_offOf, kI_X8, by decide +kernel, by decide +kernel, by decide +kernel⟩
theorem mv_X8_offOf : MV yX8_offOf := ⟨kN_X8_offOf, kV_X8_offOf⟩
theorem mi_X8_forNow : MI yX8_forNow cX8_forNow 3 (some .int) 0 := ⟨kC_X8_forNow, kI_X8, by decide +kernel, by decide +kernel, by decide +kernel⟩
theorem mv_X8_forNow : MV yX8_forNow := ⟨kN_X8_forNow, kV_X8_forNow⟩
theorem mi_X8_offBy : MI yX8_offBy cX8_offBy 4 (some .int) 2 := ⟨kC_X8_offBy, kI_X8, by decide +kernel, by decide +kernel, by decide +kernel⟩
theorem mv_X8_offBy : MV yX8_offBy := ⟨kN_X8_offBy, kV_X8_offBy⟩
theorem mi_X8_manyIn : MI yX8_manyIn cX8_manyIn 3 (some .int) 1 := ⟨kC_X8_manyIn, kI_X8, by decide +kernel, by decide +kernel, by decide +kernel⟩
theorem ms_X8_manyIn : MS yX8_manyIn := kS_X8_manyIn
theorem mi_X8_off : MI yX8_off cX8_off 2 (some .int) 2 := ⟨kC_X8_off, kI_X8, by decide +kernel, by decide +kernel, by decide +kernel⟩
theorem ms_X8_off : MS yX8_off := kS_X8_off
theorem mi_X8_dues : MI yX8_dues cX8_dues 4 (some .int) 1 := ⟨kC_X8_dues, kI_X8, by decide +kernel, by decide +kernel, by decide +kernel⟩
theorem mv_X8_dues : MV yX8_dues := ⟨kN_X8_dues, kV_X8_dues⟩
theorem mi_X8_counts : MI yX8_counts cX8_counts 4 (some .int) 1 := ⟨kC_X8_counts, kI_X8, by decide +kernel, by decide +kernel, by decide +kernel⟩
theorem mv_X8_counts : MV yX8_counts := ⟨kN_X8_counts, kV_X8_counts⟩
theorem mi_X8_textAt : MI yX8_textAt cX8_textAt 2 (some .int) 1 := ⟨kC_X8_textAt, kI_X8, by decide +kernel, by decide +kernel, by decide +kernel⟩
theorem mv_X8_textAt : MV yX8_textAt := ⟨kN_X8_textAt, kV_X8_textAt⟩
theorem mi_X8_worked : MI yX8_worked cX8_worked 6 (some .int) 1 := ⟨kC_X8_worked, kI_X8, by decide +kernel, by decide +kernel, by decide +kernel⟩
theorem mv_X8_worked : MV yX8_worked := ⟨kN_X8_worked, kV_X8_worked⟩
theorem mi_X8_joined : MI yX8_joined cX8_joined 3 (some .int) 3 := ⟨kC_X8_joined, kI_X8, by decide +kernel, by decide +kernel, by decide +kernel⟩
theorem ms_X8_joined : MS yX8_joined := kS_X8_joined
theorem mi_X8_within : MI yX8_within cX8_within 3 (some .int) 3 := ⟨kC_X8_within, kI_X8, by decide +kernel, by decide +kernel, by decide +kernel⟩
theorem ms_X8_within : MS yX8_within := kS_X8_within
theorem mi_X8_asks : MI yX8_asks cX8_asks 3 (some .int) 1 := ⟨kC_X8_asks, kI_X8, by decide +kernel, by decide +kernel, by decide +kernel⟩
theorem mv_X8_asks : MV yX8_asks := ⟨kN_X8_asks, kV_X8_asks⟩
theorem mi_X8_worth : MI yX8_worth cX8_worth 3 (some .int) 1 := ⟨kC_X8_worth, kI_X8, by decide +kernel, by decide +kernel, by decide +kernel⟩
theorem mv_X8_worth : MV yX8_worth := ⟨kN_X8_worth, kV_X8_worth⟩
theorem mi_X8_as : MI yX8_as cX8_as 3 (some .int) 2 := ⟨kC_X8_as, kI_X8, by decide +kernel, by decide +kernel, by decide +kernel⟩
theorem mv_X8_as : MV yX8_as := ⟨kN_X8_as, kV_X8_as⟩
theorem mi_X8_isOf : MI yX8_isOf cX8_isOf 2 (some .boolean) 2 := ⟨kC_X8_isOf, kI_X8, by decide +kernel, by decide +kernel, by decide +kernel⟩
theorem ms_X8_isOf : MS yX8_isOf := kS_X8_isOf
theorem mi_X8_turns : MI yX8_turns cX8_turns 3 (some .int) 2 := ⟨kC_X8_turns, kI_X8, by decide +kernel, by decide +kernel, by decide +kernel⟩
theorem mv_X8_turns : MV yX8_turns := ⟨kN_X8_turns, kV_X8_turns⟩
theorem mi_X8_becomes : MI yX8_becomes cX8_becomes 4 (some .int) 2 := ⟨kC_X8_becomes, kI_X8, by decide +kernel, by decide +kernel, by decide +kernel⟩
theorem mv_X8_becomes : MV yX8_becomes := ⟨kN_X8_becomes, kV_X8_becomes⟩
theorem mi_X8_set : MI yX8_set cX8_set 4 (some .int) 3 := ⟨kC_X8_set, kI_X8, by decide +kernel, by decide +kernel, by decide +kernel⟩
theorem mv_X8_set : MV yX8_set := ⟨kN_X8_set, kV_X8_set⟩
theorem mi_X8_friends : MI yX8_friends cX8_friends 5 (some .int) 3 := ⟨kC_X8_friends, kI_X8, by decide +kernel, by decide +kernel, by decide +kernel⟩
theorem mv_X8_friends : MV yX8_friends := ⟨kN_X8_friends, kV_X8_friends⟩
theorem mi_X8_areFriends : MI yX8_areFriends cX8_areFriends 3 (some .int) 2 := ⟨kC_X8_areFriends, kI_X8, by decide +kernel, by decide +kernel, by decide +kernel⟩
theorem mv_X8_areFriends : MV yX8_areFriends := ⟨kN_X8_areFriends, kV_X8_areFriends⟩
theorem mi_X8_joins : MI yX8_joins cX8_joins 4 none 3 := ⟨kC_X8_joins, kI_X8, by decide +kernel, by decide +kernel, by decide +kernel⟩
theorem mv_X8_joins : MV yX8_joins := ⟨kN_X8_joins, kV_X8_joins⟩
theorem mi_X8_rule : MI yX8_rule cX8_rule 3 (some .int) 2 := ⟨kC_X8_rule, kI_X8, by decide +kernel, by decide +kernel, by decide +kernel⟩
theorem mv_X8_rule : MV yX8_rule := ⟨kN_X8_rule, kV_X8_rule⟩
theorem mi_X8_deal : MI yX8_deal cX8_deal 5 (some .int) 1 := ⟨kC_X8_deal, kI_X8, by decide +kernel, by decide +kernel, by decide +kernel⟩
theorem mv_X8_deal : MV yX8_deal := ⟨kN_X8_deal, kV_X8_deal⟩
theorem mi_X8_drawn : MI yX8_drawn cX8_drawn 1 (some .int) 0 := ⟨kC_X8_drawn, kI_X8, by decide +kernel, by decide +kernel, by decide +kernel⟩
theorem mv_X8_drawn : MV yX8_drawn := ⟨kN_X8_drawn, kV_X8_drawn⟩
theorem mi_X8_seed : MI yX8_seed cX8_seed 2 (some .int) 1 := ⟨kC_X8_seed, kI_X8, by decide +kernel, by decide +kernel, by decide +kernel⟩
theorem mv_X8_seed : MV yX8_seed := ⟨kN_X8_seed, kV_X8_seed⟩
theorem mi_X8_town : MI yX8_town cX8_town 2 (some .int) 1 := ⟨kC_X8_town, kI_X8, by decide +kernel, by decide +kernel, by decide +kernel⟩
theorem mv_X8_town : MV yX8_town := ⟨kN_X8_town, kV_X8_town⟩
theorem mi_X8_allOff : MI yX8_allOff cX8_allOff 3 (some .int) 0 := ⟨kC_X8_allOff, kI_X8, by decide +kernel, by decide +kernel, by decide +kernel⟩
theorem mv_X8_allOff : MV yX8_allOff := ⟨kN_X8_allOff, kV_X8_allOff⟩
theorem mi_X8_disorder : MI yX8_disorder cX8_disorder 4 (some .int) 1 := ⟨kC_X8_disorder, kI_X8, by decide +kernel, by decide +kernel, by decide +kernel⟩
theorem mv_X8_disorder : MV yX8_disorder := ⟨kN_X8_disorder, kV_X8_disorder⟩
theorem mi_X8_oddOnes : MI yX8_oddOnes cX8_oddOnes 3 (some .int) 0 := ⟨kC_X8_oddOnes, kI_X8, by decide +kernel, by decide +kernel, by decide +kernel⟩
theorem mv_X8_oddOnes : MV yX8_oddOnes := ⟨kN_X8_oddOnes, kV_X8_oddOnes⟩
theorem mi_X8_ways : MI yX8_ways cX8_ways 3 (some .int) 0 := ⟨kC_X8_ways, kI_X8, by decide +kernel, by decide +kernel, by decide +kernel⟩
theorem mv_X8_ways : MV yX8_ways := ⟨kN_X8_ways, kV_X8_ways⟩
theorem mi_X8_isWay : MI yX8_isWay cX8_isWay 2 (some .boolean) 1 := ⟨kC_X8_isWay, kI_X8, by decide +kernel, by decide +kernel, by decide +kernel⟩
theorem mv_X8_isWay : MV yX8_isWay := ⟨kN_X8_isWay, kV_X8_isWay⟩
theorem mi_X8_fixedOnes : MI yX8_fixedOnes cX8_fixedOnes 3 (some .int) 0 := ⟨kC_X8_fixedOnes, kI_X8, by decide +kernel, by decide +kernel, by decide +kernel⟩
theorem mv_X8_fixedOnes : MV yX8_fixedOnes := ⟨kN_X8_fixedOnes, kV_X8_fixedOnes⟩
theorem mi_X8_minds : MI yX8_minds cX8_minds 5 (some .int) 1 := ⟨kC_X8_minds, kI_X8, by decide +kernel, by decide +kernel, by decide +kernel⟩
theorem mv_X8_minds : MV yX8_minds := ⟨kN_X8_minds, kV_X8_minds⟩
theorem mi_X8_cost : MI yX8_cost cX8_cost 3 (some .int) 2 := ⟨kC_X8_cost, kI_X8, by decide +kernel, by decide +kernel, by decide +kernel⟩
theorem mv_X8_cost : MV yX8_cost := ⟨kN_X8_cost, kV_X8_cost⟩
theorem mi_X8_price : MI yX8_price cX8_price 4 (some .int) 1 := ⟨kC_X8_price, kI_X8, by decide +kernel, by decide +kernel, by decide +kernel⟩
theorem mv_X8_price : MV yX8_price := ⟨kN_X8_price, kV_X8_price⟩
theorem mi_X8_orNone : MI yX8_orNone cX8_orNone 1 (some .int) 1 := ⟨kC_X8_orNone, kI_X8, by decide +kernel, by decide +kernel, by decide +kernel⟩
theorem ms_X8_orNone : MS yX8_orNone := kS_X8_orNone
theorem mi_X8_freedom : MI yX8_freedom cX8_freedom 4 (some .int) 0 := ⟨kC_X8_freedom, kI_X8, by decide +kernel, by decide +kernel, by decide +kernel⟩
theorem mv_X8_freedom : MV yX8_freedom := ⟨kN_X8_freedom, kV_X8_freedom⟩
theorem mi_X8_together : MI yX8_together cX8_together 5 (some .int) 0 := ⟨kC_X8_together, kI_X8, by decide +kernel, by decide +kernel, by decide +kernel⟩
theorem mv_X8_together : MV yX8_together := ⟨kN_X8_together, kV_X8_together⟩
theorem mi_X8_best : MI yX8_best cX8_best 8 (some .int) 2 := ⟨kC_X8_best, kI_X8, by decide +kernel, by decide +kernel, by decide +kernel⟩
theorem mv_X8_best : MV yX8_best := ⟨kN_X8_best, kV_X8_best⟩
theorem mi_X8_years : MI yX8_years cX8_years 4 (some .int) 1 := ⟨kC_X8_years, kI_X8, by decide +kernel, by decide +kernel, by decide +kernel⟩
theorem mv_X8_years : MV yX8_years := ⟨kN_X8_years, kV_X8_years⟩
theorem mi_X8_goesOn : MI yX8_goesOn cX8_goesOn 3 none 0 := ⟨kC_X8_goesOn, kI_X8, by decide +kernel, by decide +kernel, by decide +kernel⟩
theorem mv_X8_goesOn : MV yX8_goesOn := ⟨kN_X8_goesOn, kV_X8_goesOn⟩
theorem mi_X8_pays : MI yX8_pays cX8_pays 3 none 2 := ⟨kC_X8_pays, kI_X8, by decide +kernel, by decide +kernel, by decide +kernel⟩
theorem mv_X8_pays : MV yX8_pays := ⟨kN_X8_pays, kV_X8_pays⟩
theorem mi_X8_lookedAt : MI yX8_lookedAt cX8_lookedAt 1 (some .int) 0 := ⟨kC_X8_lookedAt, kI_X8, by decide +kernel, by decide +kernel, by decide +kernel⟩
theorem mv_X8_lookedAt : MV yX8_lookedAt := ⟨kN_X8_lookedAt, kV_X8_lookedAt⟩
theorem mi_X8_worst : MI yX8_worst cX8_worst 3 (some .int) 0 := ⟨kC_X8_worst, kI_X8, by decide +kernel, by decide +kernel, by decide +kernel⟩
theorem mv_X8_worst : MV yX8_worst := ⟨kN_X8_worst, kV_X8_worst⟩
theorem mi_X8_around : MI yX8_around cX8_around 5 (some .int) 2 := ⟨kC_X8_around, kI_X8, by decide +kernel, by decide +kernel, by decide +kernel⟩
theorem mv_X8_around : MV yX8_around := ⟨kN_X8_around, kV_X8_around⟩
theorem mi_X8_changes : MI yX8_changes cX8_changes 2 none 1 := ⟨kC_X8_changes, kI_X8, by decide +kernel, by decide +kernel, by decide +kernel⟩
theorem mv_X8_changes : MV yX8_changes := ⟨kN_X8_changes, kV_X8_changes⟩
theorem mi_X8_behind : MI yX8_behind cX8_behind 4 (some .int) 2 := ⟨kC_X8_behind, kI_X8, by decide +kernel, by decide +kernel, by decide +kernel⟩
theorem mv_X8_behind : MV yX8_behind := ⟨kN_X8_behind, kV_X8_behind⟩
theorem mi_X8_laysBy : MI yX8_laysBy cX8_laysBy 2 none 0 := ⟨kC_X8_laysBy, kI_X8, by decide +kernel, by decide +kernel, by decide +kernel⟩
theorem mv_X8_laysBy : MV yX8_laysBy := ⟨kN_X8_laysBy, kV_X8_laysBy⟩
theorem mi_X8_goesOnMany : MI yX8_goesOnMany cX8_goesOnMany 3 none 1 := ⟨kC_X8_goesOnMany, kI_X8, by decide +kernel, by decide +kernel, by decide +kernel⟩
theorem mv_X8_goesOnMany : MV yX8_goesOnMany := ⟨kN_X8_goesOnMany, kV_X8_goesOnMany⟩
theorem mi_X8_laysBack : MI yX8_laysBack cX8_laysBack 2 none 0 := ⟨kC_X8_laysBack, kI_X8, by decide +kernel, by decide +kernel, by decide +kernel⟩
theorem mv_X8_laysBack : MV yX8_laysBack := ⟨kN_X8_laysBack, kV_X8_laysBack⟩
theorem mi_X8_settles : MI yX8_settles cX8_settles 3 (some .int) 0 := ⟨kC_X8_settles, kI_X8, by decide +kernel, by decide +kernel, by decide +kernel⟩
theorem mv_X8_settles : MV yX8_settles := ⟨kN_X8_settles, kV_X8_settles⟩
theorem mi_X8_won : MI yX8_won cX8_won 7 (some .int) 2 := ⟨kC_X8_won, kI_X8, by decide +kernel, by decide +kernel, by decide +kernel⟩
theorem mv_X8_won : MV yX8_won := ⟨kN_X8_won, kV_X8_won⟩
theorem mi_X8_fee : MI yX8_fee cX8_fee 2 (some .int) 0 := ⟨kC_X8_fee, kI_X8, by decide +kernel, by decide +kernel, by decide +kernel⟩
theorem mv_X8_fee : MV yX8_fee := ⟨kN_X8_fee, kV_X8_fee⟩
theorem mi_X8_fine : MI yX8_fine cX8_fine 3 (some .int) 1 := ⟨kC_X8_fine, kI_X8, by decide +kernel, by decide +kernel, by decide +kernel⟩
theorem mv_X8_fine : MV yX8_fine := ⟨kN_X8_fine, kV_X8_fine⟩
theorem mi_X8_feed : MI yX8_feed cX8_feed 6 (some .int) 3 := ⟨kC_X8_feed, kI_X8, by decide +kernel, by decide +kernel, by decide +kernel⟩
theorem mv_X8_feed : MV yX8_feed := ⟨kN_X8_feed, kV_X8_feed⟩
theorem mi_X8_trim : MI yX8_trim cX8_trim 2 (some .int) 1 := ⟨kC_X8_trim, kI_X8, by decide +kernel, by decide +kernel, by decide +kernel⟩
theorem mv_X8_trim : MV yX8_trim := ⟨kN_X8_trim, kV_X8_trim⟩
theorem mi_X8_text : MI yX8_text cX8_text 3 (some .int) 0 := ⟨kC_X8_text, kI_X8, by decide +kernel, by decide +kernel, by decide +kernel⟩
theorem mv_X8_text : MV yX8_text := ⟨kN_X8_text, kV_X8_text⟩
theorem mi_X8_parse : MI yX8_parse cX8_parse 3 (some .int) 0 := ⟨kC_X8_parse, kI_X8, by decide +kernel, by decide +kernel, by decide +kernel⟩
theorem mv_X8_parse : MV yX8_parse := ⟨kN_X8_parse, kV_X8_parse⟩
theorem mi_X8_nextToken : MI yX8_nextToken cX8_nextToken 3 none 0 := ⟨kC_X8_nextToken, kI_X8, by decide +kernel, by decide +kernel, by decide +kernel⟩
theorem mv_X8_nextToken : MV yX8_nextToken := ⟨kN_X8_nextToken, kV_X8_nextToken⟩
theorem mi_X8_isLetter : MI yX8_isLetter cX8_isLetter 2 (some .boolean) 1 := ⟨kC_X8_isLetter, kI_X8, by decide +kernel, by decide +kernel, by decide +kernel⟩
theorem mv_X8_isLetter : MV yX8_isLetter := ⟨kN_X8_isLetter, kV_X8_isLetter⟩
theorem mi_X8_isDigit : MI yX8_isDigit cX8_isDigit 2 (some .boolean) 1 := ⟨kC_X8_isDigit, kI_X8, by decide +kernel, by decide +kernel, by decide +kernel⟩
theorem mv_X8_isDigit : MV yX8_isDigit := ⟨kN_X8_isDigit, kV_X8_isDigit⟩
theorem mi_X8_key : MI yX8_key cX8_key 1 (some .int) 0 := ⟨kC_X8_key, kI_X8, by decide +kernel, by decide +kernel, by decide +kernel⟩
theorem mv_X8_key : MV yX8_key := ⟨kN_X8_key, kV_X8_key⟩
theorem mi_X8_isWordAt : MI yX8_isWordAt cX8_isWordAt 6 (some .boolean) 4 := ⟨kC_X8_isWordAt, kI_X8, by decide +kernel, by decide +kernel, by decide +kernel⟩
theorem mv_X8_isWordAt : MV yX8_isWordAt := ⟨kN_X8_isWordAt, kV_X8_isWordAt⟩
theorem mi_X8_either : MI yX8_either cX8_either 2 (some .boolean) 1 := ⟨kC_X8_either, kI_X8, by decide +kernel, by decide +kernel, by decide +kernel⟩
theorem mv_X8_either : MV yX8_either := ⟨kN_X8_either, kV_X8_either⟩
theorem mi_X8_both : MI yX8_both cX8_both 2 (some .boolean) 1 := ⟨kC_X8_both, kI_X8, by decide +kernel, by decide +kernel, by decide +kernel⟩
theorem mv_X8_both : MV yX8_both := ⟨kN_X8_both, kV_X8_both⟩
theorem mi_X8_test : MI yX8_test cX8_test 3 (some .boolean) 1 := ⟨kC_X8_test, kI_X8, by decide +kernel, by decide +kernel, by decide +kernel⟩
theorem mv_X8_test : MV yX8_test := ⟨kN_X8_test, kV_X8_test⟩
theorem mi_X8_sum : MI yX8_sum cX8_sum 3 (some .boolean) 1 := ⟨kC_X8_sum, kI_X8, by decide +kernel, by decide +kernel, by decide +kernel⟩
theorem mv_X8_sum : MV yX8_sum := ⟨kN_X8_sum, kV_X8_sum⟩
theorem mi_X8_term : MI yX8_term cX8_term 3 (some .boolean) 1 := ⟨kC_X8_term, kI_X8, by decide +kernel, by decide +kernel, by decide +kernel⟩
theorem mv_X8_term : MV yX8_term := ⟨kN_X8_term, kV_X8_term⟩
theorem mi_X8_part0 : MI yX8_part0 cX8_part0 2 (some .boolean) 1 := ⟨kC_X8_part0, kI_X8, by decide +kernel, by decide +kernel, by decide +kernel⟩
theorem mv_X8_part0 : MV yX8_part0 := ⟨kN_X8_part0, kV_X8_part0⟩
theorem mi_X8_step : MI yX8_step cX8_step 3 none 2 := ⟨kC_X8_step, kI_X8, by decide +kernel, by decide +kernel, by decide +kernel⟩
theorem mv_X8_step : MV yX8_step := ⟨kN_X8_step, kV_X8_step⟩
theorem mi_X8_isName : MI yX8_isName cX8_isName 2 (some .boolean) 2 := ⟨kC_X8_isName, kI_X8, by decide +kernel, by decide +kernel, by decide +kernel⟩
theorem ms_X8_isName : MS yX8_isName := kS_X8_isName
theorem mi_X8_isSign : MI yX8_isSign cX8_isSign 2 (some .boolean) 1 := ⟨kC_X8_isSign, kI_X8, by decide +kernel, by decide +kernel, by decide +kernel⟩
theorem mv_X8_isSign : MV yX8_isSign := ⟨kN_X8_isSign, kV_X8_isSign⟩
theorem mi_X8_textTold : MI yX8_textTold cX8_textTold 3 (some .int) 2 := ⟨kC_X8_textTold, kI_X8, by decide +kernel, by decide +kernel, by decide +kernel⟩
theorem mv_X8_textTold : MV yX8_textTold := ⟨kN_X8_textTold, kV_X8_textTold⟩
theorem mi_X8_isText : MI yX8_isText cX8_isText 2 (some .boolean) 1 := ⟨kC_X8_isText, kI_X8, by decide +kernel, by decide +kernel, by decide +kernel⟩
theorem mv_X8_isText : MV yX8_isText := ⟨kN_X8_isText, kV_X8_isText⟩
theorem mi_X8_why : MI yX8_why cX8_why 2 (some .int) 1 := ⟨kC_X8_why, kI_X8, by decide +kernel, by decide +kernel, by decide +kernel⟩
theorem mv_X8_why : MV yX8_why := ⟨kN_X8_why, kV_X8_why⟩
theorem mi_X8_sheet : MI yX8_sheet cX8_sheet 5 (some .int) 3 := ⟨kC_X8_sheet, kI_X8, by decide +kernel, by decide +kernel, by decide +kernel⟩
theorem mv_X8_sheet : MV yX8_sheet := ⟨kN_X8_sheet, kV_X8_sheet⟩
theorem mi_X8_isSheet : MI yX8_isSheet cX8_isSheet 1 (some .boolean) 1 := ⟨kC_X8_isSheet, kI_X8, by decide +kernel, by decide +kernel, by decide +kernel⟩
theorem ms_X8_isSheet : MS yX8_isSheet := kS_X8_isSheet
theorem mi_X8_mark : MI yX8_mark cX8_mark 4 (some .int) 3 := ⟨kC_X8_mark, kI_X8, by decide +kernel, by decide +kernel, by decide +kernel⟩
theorem mv_X8_mark : MV yX8_mark := ⟨kN_X8_mark, kV_X8_mark⟩
theorem mi_X8_pour : MI yX8_pour cX8_pour 6 (some .int) 1 := ⟨kC_X8_pour, kI_X8, by decide +kernel, by decide +kernel, by decide +kernel⟩
theorem mv_X8_pour : MV yX8_pour := ⟨kN_X8_pour, kV_X8_pour⟩
theorem mi_X8_isFor : MI yX8_isFor cX8_isFor 1 (some .int) 1 := ⟨kC_X8_isFor, kI_X8, by decide +kernel, by decide +kernel, by decide +kernel⟩
theorem ms_X8_isFor : MS yX8_isFor := kS_X8_isFor
theorem mi_X8_reads : MI yX8_reads cX8_reads 4 (some .int) 1 := ⟨kC_X8_reads, kI_X8, by decide +kernel, by decide +kernel, by decide +kernel⟩
theorem mv_X8_reads : MV yX8_reads := ⟨kN_X8_reads, kV_X8_reads⟩
theorem mi_X8_lied : MI yX8_lied cX8_lied 10 (some .int) 2 := ⟨kC_X8_lied, kI_X8, by decide +kernel, by decide +kernel, by decide +kernel⟩
theorem mv_X8_lied : MV yX8_lied := ⟨kN_X8_lied, kV_X8_lied⟩
theorem mi_X8_copy : MI yX8_copy cX8_copy 7 (some .int) 5 := ⟨kC_X8_copy, kI_X8, by decide +kernel, by decide +kernel, by decide +kernel⟩
theorem mv_X8_copy : MV yX8_copy := ⟨kN_X8_copy, kV_X8_copy⟩
theorem mi_X8_lay : MI yX8_lay cX8_lay 7 (some .int) 3 := ⟨kC_X8_lay, kI_X8, by decide +kernel, by decide +kernel, by decide +kernel⟩
theorem mv_X8_lay : MV yX8_lay := ⟨kN_X8_lay, kV_X8_lay⟩
theorem mi_X8_isSlot : MI yX8_isSlot cX8_isSlot 1 (some .boolean) 1 := ⟨kC_X8_isSlot, kI_X8, by decide +kernel, by decide +kernel, by decide +kernel⟩
theorem ms_X8_isSlot : MS yX8_isSlot := kS_X8_isSlot
theorem mi_X8_ask : MI yX8_ask cX8_ask 3 (some .int) 2 := ⟨kC_X8_ask, kI_X8, by decide +kernel, by decide +kernel, by decide +kernel⟩
theorem mv_X8_ask : MV yX8_ask := ⟨kN_X8_ask, kV_X8_ask⟩
theorem mi_X8_item : MI yX8_item cX8_item 4 (some .int) 2 := ⟨kC_X8_item, kI_X8, by decide +kernel, by decide +kernel, by decide +kernel⟩
theorem mv_X8_item : MV yX8_item := ⟨kN_X8_item, kV_X8_item⟩
theorem mi_X8_rest : MI yX8_rest cX8_rest 3 (some .int) 2 := ⟨kC_X8_rest, kI_X8, by decide +kernel, by decide +kernel, by decide +kernel⟩
theorem mv_X8_rest : MV yX8_rest := ⟨kN_X8_rest, kV_X8_rest⟩
theorem mi_X8_tell : MI yX8_tell cX8_tell 2 (some .int) 1 := ⟨kC_X8_tell, kI_X8, by decide +kernel, by decide +kernel, by decide +kernel⟩
theorem mv_X8_tell : MV yX8_tell := ⟨kN_X8_tell, kV_X8_tell⟩
theorem mi_X8_check : MI yX8_check cX8_check 5 (some .int) 1 := ⟨kC_X8_check, kI_X8, by decide +kernel, by decide +kernel, by decide +kernel⟩
theorem mv_X8_check : MV yX8_check := ⟨kN_X8_check, kV_X8_check⟩
theorem mi_X8_setAside : MI yX8_setAside cX8_setAside 4 none 2 := ⟨kC_X8_setAside, kI_X8, by decide +kernel, by decide +kernel, by decide +kernel⟩
theorem mv_X8_setAside : MV yX8_setAside := ⟨kN_X8_setAside, kV_X8_setAside⟩
theorem mi_X8_keep : MI yX8_keep cX8_keep 1 (some .int) 0 := ⟨kC_X8_keep, kI_X8, by decide +kernel, by decide +kernel, by decide +kernel⟩
theorem mv_X8_keep : MV yX8_keep := ⟨kN_X8_keep, kV_X8_keep⟩
theorem mi_X8_back : MI yX8_back cX8_back 1 (some .int) 0 := ⟨kC_X8_back, kI_X8, by decide +kernel, by decide +kernel, by decide +kernel⟩
theorem mv_X8_back : MV yX8_back := ⟨kN_X8_back, kV_X8_back⟩
theorem mi_X8_count : MI yX8_count cX8_count 2 (some .int) 1 := ⟨kC_X8_count, kI_X8, by decide +kernel, by decide +kernel, by decide +kernel⟩
theorem mv_X8_count : MV yX8_count := ⟨kN_X8_count, kV_X8_count⟩
end
section
set_option maxRecDepth 100000 in
theorem DX0_init : ∀ q ∈ ([(0, .aload_n 0, 1), (1, .invokespecial 3, 3), (4, .aload_n 0, 1), (5, .bipush 14, 2), (7, .newarray .int, 2), (9, .putfield 9, 3), (12, .aload_n 0, 1), (13, .bipush 14, 2), (15, .newarray .int, 2), (17, .putfield 15, 3), (20, .aload_n 0, 1), (21, .bipush 14, 2), (23, .newarray .int, 2), (25, .putfield 18, 3), (28, .aload_n 0, 1), (29, .bipush 14, 2), (31, .bipush 96, 2), (33, .multianewarray 21 2, 4), (37, .putfield 23, 3), (40, .aload_n 0, 1), (41, .bipush 96, 2), (43, .newarray .int, 2), (45, .putfield 26, 3), (48, .return_, 1)] : List (Nat × Instr × Nat)), decode cX0_init q.1 = .ok (q.2.1, q.2.2) := by decide +kernel
theorem dX0_init_0 : decode cX0_init 0 = .ok (.aload_n 0, 1) := DX0_init (0, .aload_n 0, 1) (List.mem_of_getElem? (i := 0) rfl)
theorem dX0_init_1 : decode cX0_init 1 = .ok (.invokespecial 3, 3) := DX0_init (1, .invokespecial 3, 3) (List.mem_of_getElem? (i := 1) rfl)
theorem dX0_init_4 : decode cX0_init 4 = .ok (.aload_n 0, 1) := DX0_init (4, .aload_n 0, 1) (List.mem_of_getElem? (i := 2) rfl)
theorem dX0_init_5 : decode cX0_init 5 = .ok (.bipush 14, 2) := DX0_init (5, .bipush 14, 2) (List.mem_of_getElem? (i := 3) rfl)
theorem dX0_init_7 : decode cX0_init 7 = .ok (.newarray .int, 2) := DX0_init (7, .newarray .int, 2) (List.mem_of_getElem? (i := 4) rfl)
theorem dX0_init_9 : decode cX0_init 9 = .ok (.putfield 9, 3) := DX0_init (9, .putfield 9, 3) (List.mem_of_getElem? (i := 5) rfl)
theorem dX0_init_12 : decode cX0_init 12 = .ok (.aload_n 0, 1) := DX0_init (12, .aload_n 0, 1) (List.mem_of_getElem? (i := 6) rfl)
theorem dX0_init_13 : decode cX0_init 13 = .ok (.bipush 14, 2) := DX0_init (13, .bipush 14, 2) (List.mem_of_getElem? (i := 7) rfl)
theorem dX0_init_15 : decode cX0_init 15 = .ok (.newarray .int, 2) := DX0_init (15, .newarray .int, 2) (List.mem_of_getElem? (i := 8) rfl)
theorem dX0_init_17 : decode cX0_init 17 = .ok (.putfield 15, 3) := DX0_init (17, .putfield 15, 3) (List.mem_of_getElem? (i := 9) rfl)
theorem dX0_init_20 : decode cX0_init 20 = .ok (.aload_n 0, 1) := DX0_init (20, .aload_n 0, 1) (List.mem_of_getElem? (i := 10) rfl)
theorem dX0_init_21 : decode cX0_init 21 = .ok (.bipush 14, 2) := DX0_init (21, .bipush 14, 2) (List.mem_of_getElem? (i := 11) rfl)
theorem dX0_init_23 : decode cX0_init 23 = .ok (.newarray .int, 2) := DX0_init (23, .newarray .int, 2) (List.mem_of_getElem? (i := 12) rfl)
theorem dX0_init_25 : decode cX0_init 25 = .ok (.putfield 18, 3) := DX0_init (25, .putfield 18, 3) (List.mem_of_getElem? (i := 13) rfl)
theorem dX0_init_28 : decode cX0_init 28 = .ok (.aload_n 0, 1) := DX0_init (28, .aload_n 0, 1) (List.mem_of_getElem? (i := 14) rfl)
theorem dX0_init_29 : decode cX0_init 29 = .ok (.bipush 14, 2) := DX0_init (29, .bipush 14, 2) (List.mem_of_getElem? (i := 15) rfl)
theorem dX0_init_31 : decode cX0_init 31 = .ok (.bipush 96, 2) := DX0_init (31, .bipush 96, 2) (List.mem_of_getElem? (i := 16) rfl)
theorem dX0_init_33 : decode cX0_init 33 = .ok (.multianewarray 21 2, 4) := DX0_init (33, .multianewarray 21 2, 4) (List.mem_of_getElem? (i := 17) rfl)
theorem dX0_init_37 : decode cX0_init 37 = .ok (.putfield 23, 3) := DX0_init (37, .putfield 23, 3) (List.mem_of_getElem? (i := 18) rfl)
theorem dX0_init_40 : decode cX0_init 40 = .ok (.aload_n 0, 1) := DX0_init (40, .aload_n 0, 1) (List.mem_of_getElem? (i := 19) rfl)
theorem dX0_init_41 : decode cX0_init 41 = .ok (.bipush 96, 2) := DX0_init (41, .bipush 96, 2) (List.mem_of_getElem? (i := 20) rfl)
theorem dX0_init_43 : decode cX0_init 43 = .ok (.newarray .int, 2) := DX0_init (43, .newarray .int, 2) (List.mem_of_getElem? (i := 21) rfl)
theorem dX0_init_45 : decode cX0_init 45 = .ok (.putfield 26, 3) := DX0_init (45, .putfield 26, 3) (List.mem_of_getElem? (i := 22) rfl)
theorem dX0_init_48 : decode cX0_init 48 = .ok (.return_, 1) := DX0_init (48, .return_, 1) (List.mem_of_getElem? (i := 23) rfl)
set_option maxRecDepth 100000 in
theorem DX0_write : ∀ q ∈ ([(0, .iload_n 1, 1), (1, .ifCond .lt 9, 3), (4, .iload_n 1, 1), (5, .bipush 14, 2), (7, .if_icmp .lt 4, 3), (10, .return_, 1), (11, .aload_n 0, 1), (12, .getfield 9, 3), (15, .iload_n 1, 1), (16, .aload_n 2, 1), (17, .getfield 29, 3), (20, .iastore, 1), (21, .aload_n 0, 1), (22, .getfield 15, 3), (25, .iload_n 1, 1), (26, .aload_n 2, 1), (27, .getfield 35, 3), (30, .iastore, 1), (31, .aload_n 0, 1), (32, .getfield 18, 3), (35, .iload_n 1, 1), (36, .aload_n 2, 1), (37, .getfield 37, 3), (40, .iastore, 1), (41, .aload_n 2, 1), (42, .getfield 40, 3), (45, .iconst 0, 1), (46, .aload_n 0, 1), (47, .getfield 23, 3), (50, .iload_n 1, 1), (51, .aaload, 1), (52, .iconst 0, 1), (53, .bipush 96, 2), (55, .invokestatic 42, 3), (58, .return_, 1)] : List (Nat × Instr × Nat)), decode cX0_write q.1 = .ok (q.2.1, q.2.2) := by decide +kernel
theorem dX0_write_0 : decode cX0_write 0 = .ok (.iload_n 1, 1) := DX0_write (0, .iload_n 1, 1) (List.mem_of_getElem? (i := 0) rfl)
theorem dX0_write_1 : decode cX0_write 1 = .ok (.ifCond .lt 9, 3) := DX0_write (1, .ifCond .lt 9, 3) (List.mem_of_getElem? (i := 1) rfl)
theorem dX0_write_4 : decode cX0_write 4 = .ok (.iload_n 1, 1) := DX0_write (4, .iload_n 1, 1) (List.mem_of_getElem? (i := 2) rfl)
theorem dX0_write_5 : decode cX0_write 5 = .ok (.bipush 14, 2) := DX0_write (5, .bipush 14, 2) (List.mem_of_getElem? (i := 3) rfl)
theorem dX0_write_7 : decode cX0_write 7 = .ok (.if_icmp .lt 4, 3) := DX0_write (7, .if_icmp .lt 4, 3) (List.mem_of_getElem? (i := 4) rfl)
theorem dX0_write_10 : decode cX0_write 10 = .ok (.return_, 1) := DX0_write (10, .return_, 1) (List.mem_of_getElem? (i := 5) rfl)
theorem dX0_write_11 : decode cX0_write 11 = .ok (.aload_n 0, 1) := DX0_write (11, .aload_n 0, 1) (List.mem_of_getElem? (i := 6) rfl)
theorem dX0_write_12 : decode cX0_write 12 = .ok (.getfield 9, 3) := DX0_write (12, .getfield 9, 3) (List.mem_of_getElem? (i := 7) rfl)
theorem dX0_write_15 : decode cX0_write 15 = .ok (.iload_n 1, 1) := DX0_write (15, .iload_n 1, 1) (List.mem_of_getElem? (i := 8) rfl)
theorem dX0_write_16 : decode cX0_write 16 = .ok (.aload_n 2, 1) := DX0_write (16, .aload_n 2, 1) (List.mem_of_getElem? (i := 9) rfl)
theorem dX0_write_17 : decode cX0_write 17 = .ok (.getfield 29, 3) := DX0_write (17, .getfield 29, 3) (List.mem_of_getElem? (i := 10) rfl)
theorem dX0_write_20 : decode cX0_write 20 = .ok (.iastore, 1) := DX0_write (20, .iastore, 1) (List.mem_of_getElem? (i := 11) rfl)
theorem dX0_write_21 : decode cX0_write 21 = .ok (.aload_n 0, 1) := DX0_write (21, .aload_n 0, 1) (List.mem_of_getElem? (i := 12) rfl)
theorem dX0_write_22 : decode cX0_write 22 = .ok (.getfield 15, 3) := DX0_write (22, .getfield 15, 3) (List.mem_of_getElem? (i := 13) rfl)
theorem dX0_write_25 : decode cX0_write 25 = .ok (.iload_n 1, 1) := DX0_write (25, .iload_n 1, 1) (List.mem_of_getElem? (i := 14) rfl)
theorem dX0_write_26 : decode cX0_write 26 = .ok (.aload_n 2, 1) := DX0_write (26, .aload_n 2, 1) (List.mem_of_getElem? (i := 15) rfl)
theorem dX0_write_27 : decode cX0_write 27 = .ok (.getfield 35, 3) := DX0_write (27, .getfield 35, 3) (List.mem_of_getElem? (i := 16) rfl)
theorem dX0_write_30 : decode cX0_write 30 = .ok (.iastore, 1) := DX0_write (30, .iastore, 1) (List.mem_of_getElem? (i := 17) rfl)
theorem dX0_write_31 : decode cX0_write 31 = .ok (.aload_n 0, 1) := DX0_write (31, .aload_n 0, 1) (List.mem_of_getElem? (i := 18) rfl)
theorem dX0_write_32 : decode cX0_write 32 = .ok (.getfield 18, 3) := DX0_write (32, .getfield 18, 3) (List.mem_of_getElem? (i := 19) rfl)
theorem dX0_write_35 : decode cX0_write 35 = .ok (.iload_n 1, 1) := DX0_write (35, .iload_n 1, 1) (List.mem_of_getElem? (i := 20) rfl)
theorem dX0_write_36 : decode cX0_write 36 = .ok (.aload_n 2, 1) := DX0_write (36, .aload_n 2, 1) (List.mem_of_getElem? (i := 21) rfl)
theorem dX0_write_37 : decode cX0_write 37 = .ok (.getfield 37, 3) := DX0_write (37, .getfield 37, 3) (List.mem_of_getElem? (i := 22) rfl)
theorem dX0_write_40 : decode cX0_write 40 = .ok (.iastore, 1) := DX0_write (40, .iastore, 1) (List.mem_of_getElem? (i := 23) rfl)
theorem dX0_write_41 : decode cX0_write 41 = .ok (.aload_n 2, 1) := DX0_write (41, .aload_n 2, 1) (List.mem_of_getElem? (i := 24) rfl)
theorem dX0_write_42 : decode cX0_write 42 = .ok (.getfield 40, 3) := DX0_write (42, .getfield 40, 3) (List.mem_of_getElem? (i := 25) rfl)
theorem dX0_write_45 : decode cX0_write 45 = .ok (.iconst 0, 1) := DX0_write (45, .iconst 0, 1) (List.mem_of_getElem? (i := 26) rfl)
theorem dX0_write_46 : decode cX0_write 46 = .ok (.aload_n 0, 1) := DX0_write (46, .aload_n 0, 1) (List.mem_of_getElem? (i := 27) rfl)
theorem dX0_write_47 : decode cX0_write 47 = .ok (.getfield 23, 3) := DX0_write (47, .getfield 23, 3) (List.mem_of_getElem? (i := 28) rfl)
theorem dX0_write_50 : decode cX0_write 50 = .ok (.iload_n 1, 1) := DX0_write (50, .iload_n 1, 1) (List.mem_of_getElem? (i := 29) rfl)
theorem dX0_write_51 : decode cX0_write 51 = .ok (.aaload, 1) := DX0_write (51, .aaload, 1) (List.mem_of_getElem? (i := 30) rfl)
theorem dX0_write_52 : decode cX0_write 52 = .ok (.iconst 0, 1) := DX0_write (52, .iconst 0, 1) (List.mem_of_getElem? (i := 31) rfl)
theorem dX0_write_53 : decode cX0_write 53 = .ok (.bipush 96, 2) := DX0_write (53, .bipush 96, 2) (List.mem_of_getElem? (i := 32) rfl)
theorem dX0_write_55 : decode cX0_write 55 = .ok (.invokestatic 42, 3) := DX0_write (55, .invokestatic 42, 3) (List.mem_of_getElem? (i := 33) rfl)
theorem dX0_write_58 : decode cX0_write 58 = .ok (.return_, 1) := DX0_write (58, .return_, 1) (List.mem_of_getElem? (i := 34) rfl)
set_option maxRecDepth 100000 in
theorem DX0_counts : ∀ q ∈ ([(0, .iload_n 2, 1), (1, .bipush 14, 2), (3, .invokestatic 48, 3), (6, .iconst 1, 1), (7, .isub, 1), (8, .istore_n 3, 1), (9, .iload_n 3, 1), (10, .ifCond .lt 21, 3), (13, .aload_n 0, 1), (14, .getfield 9, 3), (17, .iload_n 3, 1), (18, .iaload, 1), (19, .iload_n 1, 1), (20, .if_icmp .ne 5, 3), (23, .iload_n 3, 1), (24, .ireturn, 1), (25, .iinc 3 (-1), 3), (28, .goto (-19), 3), (31, .iconst (-1), 1), (32, .ireturn, 1)] : List (Nat × Instr × Nat)), decode cX0_counts q.1 = .ok (q.2.1, q.2.2) := by decide +kernel
theorem dX0_counts_0 : decode cX0_counts 0 = .ok (.iload_n 2, 1) := DX0_counts (0, .iload_n 2, 1) (List.mem_of_getElem? (i := 0) rfl)
theorem dX0_counts_1 : decode cX0_counts 1 = .ok (.bipush 14, 2) := DX0_counts (1, .bipush 14, 2) (List.mem_of_getElem? (i := 1) rfl)
theorem dX0_counts_3 : decode cX0_counts 3 = .ok (.invokestatic 48, 3) := DX0_counts (3, .invokestatic 48, 3) (List.mem_of_getElem? (i := 2) rfl)
theorem dX0_counts_6 : decode cX0_counts 6 = .ok (.iconst 1, 1) := DX0_counts (6, .iconst 1, 1) (List.mem_of_getElem? (i := 3) rfl)
theorem dX0_counts_7 : decode cX0_counts 7 = .ok (.isub, 1) := DX0_counts (7, .isub, 1) (List.mem_of_getElem? (i := 4) rfl)
theorem dX0_counts_8 : decode cX0_counts 8 = .ok (.istore_n 3, 1) := DX0_counts (8, .istore_n 3, 1) (List.mem_of_getElem? (i := 5) rfl)
theorem dX0_counts_9 : decode cX0_counts 9 = .ok (.iload_n 3, 1) := DX0_counts (9, .iload_n 3, 1) (List.mem_of_getElem? (i := 6) rfl)
theorem dX0_counts_10 : decode cX0_counts 10 = .ok (.ifCond .lt 21, 3) := DX0_counts (10, .ifCond .lt 21, 3) (List.mem_of_getElem? (i := 7) rfl)
theorem dX0_counts_13 : decode cX0_counts 13 = .ok (.aload_n 0, 1) := DX0_counts (13, .aload_n 0, 1) (List.mem_of_getElem? (i := 8) rfl)
theorem dX0_counts_14 : decode cX0_counts 14 = .ok (.getfield 9, 3) := DX0_counts (14, .getfield 9, 3) (List.mem_of_getElem? (i := 9) rfl)
theorem dX0_counts_17 : decode cX0_counts 17 = .ok (.iload_n 3, 1) := DX0_counts (17, .iload_n 3, 1) (List.mem_of_getElem? (i := 10) rfl)
theorem dX0_counts_18 : decode cX0_counts 18 = .ok (.iaload, 1) := DX0_counts (18, .iaload, 1) (List.mem_of_getElem? (i := 11) rfl)
theorem dX0_counts_19 : decode cX0_counts 19 = .ok (.iload_n 1, 1) := DX0_counts (19, .iload_n 1, 1) (List.mem_of_getElem? (i := 12) rfl)
theorem dX0_counts_20 : decode cX0_counts 20 = .ok (.if_icmp .ne 5, 3) := DX0_counts (20, .if_icmp .ne 5, 3) (List.mem_of_getElem? (i := 13) rfl)
theorem dX0_counts_23 : decode cX0_counts 23 = .ok (.iload_n 3, 1) := DX0_counts (23, .iload_n 3, 1) (List.mem_of_getElem? (i := 14) rfl)
theorem dX0_counts_24 : decode cX0_counts 24 = .ok (.ireturn, 1) := DX0_counts (24, .ireturn, 1) (List.mem_of_getElem? (i := 15) rfl)
theorem dX0_counts_25 : decode cX0_counts 25 = .ok (.iinc 3 (-1), 3) := DX0_counts (25, .iinc 3 (-1), 3) (List.mem_of_getElem? (i := 16) rfl)
theorem dX0_counts_28 : decode cX0_counts 28 = .ok (.goto (-19), 3) := DX0_counts (28, .goto (-19), 3) (List.mem_of_getElem? (i := 17) rfl)
theorem dX0_counts_31 : decode cX0_counts 31 = .ok (.iconst (-1), 1) := DX0_counts (31, .iconst (-1), 1) (List.mem_of_getElem? (i := 18) rfl)
theorem dX0_counts_32 : decode cX0_counts 32 = .ok (.ireturn, 1) := DX0_counts (32, .ireturn, 1) (List.mem_of_getElem? (i := 19) rfl)
set_option maxRecDepth 100000 in
theorem DX0_gives : ∀ q ∈ ([(0, .iload_n 1, 1), (1, .ifCond .lt 9, 3), (4, .iload_n 1, 1), (5, .bipush 14, 2), (7, .if_icmp .lt 5, 3), (10, .iconst 0, 1), (11, .ireturn, 1), (12, .aload_n 0, 1), (13, .getfield 23, 3), (16, .iload_n 1, 1), (17, .aaload, 1), (18, .astore 5, 2), (20, .iconst 0, 1), (21, .istore 6, 2), (23, .iconst 0, 1), (24, .istore 7, 2), (26, .iload 7, 2), (28, .aload_n 0, 1), (29, .getfield 18, 3), (32, .iload_n 1, 1), (33, .iaload, 1), (34, .if_icmp .ge 151, 3), (37, .iload 7, 2), (39, .aload 5, 2), (41, .arraylength, 1), (42, .if_icmp .ge 143, 3), (45, .aload 5, 2), (47, .iload 7, 2), (49, .iaload, 1), (50, .istore 8, 2), (52, .iload 8, 2), (54, .bipush (-4), 2), (56, .if_icmp .lt 83, 3), (59, .iload 8, 2), (61, .bipush (-4), 2), (63, .if_icmp .eq 35, 3), (66, .iload 6, 2), (68, .aload_n 0, 1), (69, .getfield 26, 3), (72, .arraylength, 1), (73, .if_icmp .ge 25, 3), (76, .aload_n 0, 1), (77, .getfield 26, 3), (80, .iload 6, 2), (82, .iload 8, 2), (84, .iload_n 2, 1), (85, .iload_n 3, 1), (86, .iload 4, 2), (88, .invokestatic 54, 3), (91, .iastore, 1), (92, .iinc 6 1, 3), (95, .goto 84, 3), (98, .iload 8, 2), (100, .bipush (-4), 2), (102, .if_icmp .ne 77, 3), (105, .iload 6, 2), (107, .ifCond .le 72, 3), (110, .aload_n 0, 1), (111, .getfield 26, 3), (114, .iload 6, 2), (116, .iconst 1, 1), (117, .isub, 1), (118, .aload_n 0, 1), (119, .getfield 26, 3), (122, .iload 6, 2), (124, .iconst 1, 1), (125, .isub, 1), (126, .iaload, 1), (127, .ifCond .ne 7, 3), (130, .iconst 1, 1), (131, .goto 4, 3), (134, .iconst 0, 1), (135, .iastore, 1), (136, .goto 43, 3), (139, .iload 6, 2), (141, .iconst 1, 1), (142, .if_icmp .le 37, 3), (145, .iinc 6 (-1), 3), (148, .aload_n 0, 1), (149, .getfield 26, 3), (152, .iload 6, 2), (154, .iconst 1, 1), (155, .isub, 1), (156, .iload 8, 2), (158, .ineg, 1), (159, .aload_n 0, 1), (160, .getfield 26, 3), (163, .iload 6, 2), (165, .iconst 1, 1), (166, .isub, 1), (167, .iaload, 1), (168, .aload_n 0, 1), (169, .getfield 26, 3), (172, .iload 6, 2), (174, .iaload, 1), (175, .invokestatic 58, 3), (178, .iastore, 1), (179, .iinc 7 1, 3), (182, .goto (-156), 3), (185, .aload_n 0, 1), (186, .getfield 26, 3), (189, .iconst 0, 1), (190, .iaload, 1), (191, .ireturn, 1)] : List (Nat × Instr × Nat)), decode cX0_gives q.1 = .ok (q.2.1, q.2.2) := by decide +kernel
theorem dX0_gives_0 : decode cX0_gives 0 = .ok (.iload_n 1, 1) := DX0_gives (0, .iload_n 1, 1) (List.mem_of_getElem? (i := 0) rfl)
theorem dX0_gives_1 : decode cX0_gives 1 = .ok (.ifCond .lt 9, 3) := DX0_gives (1, .ifCond .lt 9, 3) (List.mem_of_getElem? (i := 1) rfl)
theorem dX0_gives_4 : decode cX0_gives 4 = .ok (.iload_n 1, 1) := DX0_gives (4, .iload_n 1, 1) (List.mem_of_getElem? (i := 2) rfl)
theorem dX0_gives_5 : decode cX0_gives 5 = .ok (.bipush 14, 2) := DX0_gives (5, .bipush 14, 2) (List.mem_of_getElem? (i := 3) rfl)
theorem dX0_gives_7 : decode cX0_gives 7 = .ok (.if_icmp .lt 5, 3) := DX0_gives (7, .if_icmp .lt 5, 3) (List.mem_of_getElem? (i := 4) rfl)
theorem dX0_gives_10 : decode cX0_gives 10 = .ok (.iconst 0, 1) := DX0_gives (10, .iconst 0, 1) (List.mem_of_getElem? (i := 5) rfl)
theorem dX0_gives_11 : decode cX0_gives 11 = .ok (.ireturn, 1) := DX0_gives (11, .ireturn, 1) (List.mem_of_getElem? (i := 6) rfl)
theorem dX0_gives_12 : decode cX0_gives 12 = .ok (.aload_n 0, 1) := DX0_gives (12, .aload_n 0, 1) (List.mem_of_getElem? (i := 7) rfl)
theorem dX0_gives_13 : decode cX0_gives 13 = .ok (.getfield 23, 3) := DX0_gives (13, .getfield 23, 3) (List.mem_of_getElem? (i := 8) rfl)
theorem dX0_gives_16 : decode cX0_gives 16 = .ok (.iload_n 1, 1) := DX0_gives (16, .iload_n 1, 1) (List.mem_of_getElem? (i := 9) rfl)
theorem dX0_gives_17 : decode cX0_gives 17 = .ok (.aaload, 1) := DX0_gives (17, .aaload, 1) (List.mem_of_getElem? (i := 10) rfl)
theorem dX0_gives_18 : decode cX0_gives 18 = .ok (.astore 5, 2) := DX0_gives (18, .astore 5, 2) (List.mem_of_getElem? (i := 11) rfl)
theorem dX0_gives_20 : decode cX0_gives 20 = .ok (.iconst 0, 1) := DX0_gives (20, .iconst 0, 1) (List.mem_of_getElem? (i := 12) rfl)
theorem dX0_gives_21 : decode cX0_gives 21 = .ok (.istore 6, 2) := DX0_gives (21, .istore 6, 2) (List.mem_of_getElem? (i := 13) rfl)
theorem dX0_gives_23 : decode cX0_gives 23 = .ok (.iconst 0, 1) := DX0_gives (23, .iconst 0, 1) (List.mem_of_getElem? (i := 14) rfl)
theorem dX0_gives_24 : decode cX0_gives 24 = .ok (.istore 7, 2) := DX0_gives (24, .istore 7, 2) (List.mem_of_getElem? (i := 15) rfl)
theorem dX0_gives_26 : decode cX0_gives 26 = .ok (.iload 7, 2) := DX0_gives (26, .iload 7, 2) (List.mem_of_getElem? (i := 16) rfl)
theorem dX0_gives_28 : decode cX0_gives 28 = .ok (.aload_n 0, 1) := DX0_gives (28, .aload_n 0, 1) (List.mem_of_getElem? (i := 17) rfl)
theorem dX0_gives_29 : decode cX0_gives 29 = .ok (.getfield 18, 3) := DX0_gives (29, .getfield 18, 3) (List.mem_of_getElem? (i := 18) rfl)
theorem dX0_gives_32 : decode cX0_gives 32 = .ok (.iload_n 1, 1) := DX0_gives (32, .iload_n 1, 1) (List.mem_of_getElem? (i := 19) rfl)
theorem dX0_gives_33 : decode cX0_gives 33 = .ok (.iaload, 1) := DX0_gives (33, .iaload, 1) (List.mem_of_getElem? (i := 20) rfl)
theorem dX0_gives_34 : decode cX0_gives 34 = .ok (.if_icmp .ge 151, 3) := DX0_gives (34, .if_icmp .ge 151, 3) (List.mem_of_getElem? (i := 21) rfl)
theorem dX0_gives_37 : decode cX0_gives 37 = .ok (.iload 7, 2) := DX0_gives (37, .iload 7, 2) (List.mem_of_getElem? (i := 22) rfl)
theorem dX0_gives_39 : decode cX0_gives 39 = .ok (.aload 5, 2) := DX0_gives (39, .aload 5, 2) (List.mem_of_getElem? (i := 23) rfl)
theorem dX0_gives_41 : decode cX0_gives 41 = .ok (.arraylength, 1) := DX0_gives (41, .arraylength, 1) (List.mem_of_getElem? (i := 24) rfl)
theorem dX0_gives_42 : decode cX0_gives 42 = .ok (.if_icmp .ge 143, 3) := DX0_gives (42, .if_icmp .ge 143, 3) (List.mem_of_getElem? (i := 25) rfl)
theorem dX0_gives_45 : decode cX0_gives 45 = .ok (.aload 5, 2) := DX0_gives (45, .aload 5, 2) (List.mem_of_getElem? (i := 26) rfl)
theorem dX0_gives_47 : decode cX0_gives 47 = .ok (.iload 7, 2) := DX0_gives (47, .iload 7, 2) (List.mem_of_getElem? (i := 27) rfl)
theorem dX0_gives_49 : decode cX0_gives 49 = .ok (.iaload, 1) := DX0_gives (49, .iaload, 1) (List.mem_of_getElem? (i := 28) rfl)
theorem dX0_gives_50 : decode cX0_gives 50 = .ok (.istore 8, 2) := DX0_gives (50, .istore 8, 2) (List.mem_of_getElem? (i := 29) rfl)
theorem dX0_gives_52 : decode cX0_gives 52 = .ok (.iload 8, 2) := DX0_gives (52, .iload 8, 2) (List.mem_of_getElem? (i := 30) rfl)
theorem dX0_gives_54 : decode cX0_gives 54 = .ok (.bipush (-4), 2) := DX0_gives (54, .bipush (-4), 2) (List.mem_of_getElem? (i := 31) rfl)
theorem dX0_gives_56 : decode cX0_gives 56 = .ok (.if_icmp .lt 83, 3) := DX0_gives (56, .if_icmp .lt 83, 3) (List.mem_of_getElem? (i := 32) rfl)
theorem dX0_gives_59 : decode cX0_gives 59 = .ok (.iload 8, 2) := DX0_gives (59, .iload 8, 2) (List.mem_of_getElem? (i := 33) rfl)
theorem dX0_gives_61 : decode cX0_gives 61 = .ok (.bipush (-4), 2) := DX0_gives (61, .bipush (-4), 2) (List.mem_of_getElem? (i := 34) rfl)
theorem dX0_gives_63 : decode cX0_gives 63 = .ok (.if_icmp .eq 35, 3) := DX0_gives (63, .if_icmp .eq 35, 3) (List.mem_of_getElem? (i := 35) rfl)
theorem dX0_gives_66 : decode cX0_gives 66 = .ok (.iload 6, 2) := DX0_gives (66, .iload 6, 2) (List.mem_of_getElem? (i := 36) rfl)
theorem dX0_gives_68 : decode cX0_gives 68 = .ok (.aload_n 0, 1) := DX0_gives (68, .aload_n 0, 1) (List.mem_of_getElem? (i := 37) rfl)
theorem dX0_gives_69 : decode cX0_gives 69 = .ok (.getfield 26, 3) := DX0_gives (69, .getfield 26, 3) (List.mem_of_getElem? (i := 38) rfl)
theorem dX0_gives_72 : decode cX0_gives 72 = .ok (.arraylength, 1) := DX0_gives (72, .arraylength, 1) (List.mem_of_getElem? (i := 39) rfl)
theorem dX0_gives_73 : decode cX0_gives 73 = .ok (.if_icmp .ge 25, 3) := DX0_gives (73, .if_icmp .ge 25, 3) (List.mem_of_getElem? (i := 40) rfl)
theorem dX0_gives_76 : decode cX0_gives 76 = .ok (.aload_n 0, 1) := DX0_gives (76, .aload_n 0, 1) (List.mem_of_getElem? (i := 41) rfl)
theorem dX0_gives_77 : decode cX0_gives 77 = .ok (.getfield 26, 3) := DX0_gives (77, .getfield 26, 3) (List.mem_of_getElem? (i := 42) rfl)
theorem dX0_gives_80 : decode cX0_gives 80 = .ok (.iload 6, 2) := DX0_gives (80, .iload 6, 2) (List.mem_of_getElem? (i := 43) rfl)
theorem dX0_gives_82 : decode cX0_gives 82 = .ok (.iload 8, 2) := DX0_gives (82, .iload 8, 2) (List.mem_of_getElem? (i := 44) rfl)
theorem dX0_gives_84 : decode cX0_gives 84 = .ok (.iload_n 2, 1) := DX0_gives (84, .iload_n 2, 1) (List.mem_of_getElem? (i := 45) rfl)
theorem dX0_gives_85 : decode cX0_gives 85 = .ok (.iload_n 3, 1) := DX0_gives (85, .iload_n 3, 1) (List.mem_of_getElem? (i := 46) rfl)
theorem dX0_gives_86 : decode cX0_gives 86 = .ok (.iload 4, 2) := DX0_gives (86, .iload 4, 2) (List.mem_of_getElem? (i := 47) rfl)
theorem dX0_gives_88 : decode cX0_gives 88 = .ok (.invokestatic 54, 3) := DX0_gives (88, .invokestatic 54, 3) (List.mem_of_getElem? (i := 48) rfl)
theorem dX0_gives_91 : decode cX0_gives 91 = .ok (.iastore, 1) := DX0_gives (91, .iastore, 1) (List.mem_of_getElem? (i := 49) rfl)
theorem dX0_gives_92 : decode cX0_gives 92 = .ok (.iinc 6 1, 3) := DX0_gives (92, .iinc 6 1, 3) (List.mem_of_getElem? (i := 50) rfl)
theorem dX0_gives_95 : decode cX0_gives 95 = .ok (.goto 84, 3) := DX0_gives (95, .goto 84, 3) (List.mem_of_getElem? (i := 51) rfl)
theorem dX0_gives_98 : decode cX0_gives 98 = .ok (.iload 8, 2) := DX0_gives (98, .iload 8, 2) (List.mem_of_getElem? (i := 52) rfl)
theorem dX0_gives_100 : decode cX0_gives 100 = .ok (.bipush (-4), 2) := DX0_gives (100, .bipush (-4), 2) (List.mem_of_getElem? (i := 53) rfl)
theorem dX0_gives_102 : decode cX0_gives 102 = .ok (.if_icmp .ne 77, 3) := DX0_gives (102, .if_icmp .ne 77, 3) (List.mem_of_getElem? (i := 54) rfl)
theorem dX0_gives_105 : decode cX0_gives 105 = .ok (.iload 6, 2) := DX0_gives (105, .iload 6, 2) (List.mem_of_getElem? (i := 55) rfl)
theorem dX0_gives_107 : decode cX0_gives 107 = .ok (.ifCond .le 72, 3) := DX0_gives (107, .ifCond .le 72, 3) (List.mem_of_getElem? (i := 56) rfl)
theorem dX0_gives_110 : decode cX0_gives 110 = .ok (.aload_n 0, 1) := DX0_gives (110, .aload_n 0, 1) (List.mem_of_getElem? (i := 57) rfl)
theorem dX0_gives_111 : decode cX0_gives 111 = .ok (.getfield 26, 3) := DX0_gives (111, .getfield 26, 3) (List.mem_of_getElem? (i := 58) rfl)
theorem dX0_gives_114 : decode cX0_gives 114 = .ok (.iload 6, 2) := DX0_gives (114, .iload 6, 2) (List.mem_of_getElem? (i := 59) rfl)
theorem dX0_gives_116 : decode cX0_gives 116 = .ok (.iconst 1, 1) := DX0_gives (116, .iconst 1, 1) (List.mem_of_getElem? (i := 60) rfl)
theorem dX0_gives_117 : decode cX0_gives 117 = .ok (.isub, 1) := DX0_gives (117, .isub, 1) (List.mem_of_getElem? (i := 61) rfl)
theorem dX0_gives_118 : decode cX0_gives 118 = .ok (.aload_n 0, 1) := DX0_gives (118, .aload_n 0, 1) (List.mem_of_getElem? (i := 62) rfl)
theorem dX0_gives_119 : decode cX0_gives 119 = .ok (.getfield 26, 3) := DX0_gives (119, .getfield 26, 3) (List.mem_of_getElem? (i := 63) rfl)
theorem dX0_gives_122 : decode cX0_gives 122 = .ok (.iload 6, 2) := DX0_gives (122, .iload 6, 2) (List.mem_of_getElem? (i := 64) rfl)
theorem dX0_gives_124 : decode cX0_gives 124 = .ok (.iconst 1, 1) := DX0_gives (124, .iconst 1, 1) (List.mem_of_getElem? (i := 65) rfl)
theorem dX0_gives_125 : decode cX0_gives 125 = .ok (.isub, 1) := DX0_gives (125, .isub, 1) (List.mem_of_getElem? (i := 66) rfl)
theorem dX0_gives_126 : decode cX0_gives 126 = .ok (.iaload, 1) := DX0_gives (126, .iaload, 1) (List.mem_of_getElem? (i := 67) rfl)
theorem dX0_gives_127 : decode cX0_gives 127 = .ok (.ifCond .ne 7, 3) := DX0_gives (127, .ifCond .ne 7, 3) (List.mem_of_getElem? (i := 68) rfl)
theorem dX0_gives_130 : decode cX0_gives 130 = .ok (.iconst 1, 1) := DX0_gives (130, .iconst 1, 1) (List.mem_of_getElem? (i := 69) rfl)
theorem dX0_gives_131 : decode cX0_gives 131 = .ok (.goto 4, 3) := DX0_gives (131, .goto 4, 3) (List.mem_of_getElem? (i := 70) rfl)
theorem dX0_gives_134 : decode cX0_gives 134 = .ok (.iconst 0, 1) := DX0_gives (134, .iconst 0, 1) (List.mem_of_getElem? (i := 71) rfl)
theorem dX0_gives_135 : decode cX0_gives 135 = .ok (.iastore, 1) := DX0_gives (135, .iastore, 1) (List.mem_of_getElem? (i := 72) rfl)
theorem dX0_gives_136 : decode cX0_gives 136 = .ok (.goto 43, 3) := DX0_gives (136, .goto 43, 3) (List.mem_of_getElem? (i := 73) rfl)
theorem dX0_gives_139 : decode cX0_gives 139 = .ok (.iload 6, 2) := DX0_gives (139, .iload 6, 2) (List.mem_of_getElem? (i := 74) rfl)
theorem dX0_gives_141 : decode cX0_gives 141 = .ok (.iconst 1, 1) := DX0_gives (141, .iconst 1, 1) (List.mem_of_getElem? (i := 75) rfl)
theorem dX0_gives_142 : decode cX0_gives 142 = .ok (.if_icmp .le 37, 3) := DX0_gives (142, .if_icmp .le 37, 3) (List.mem_of_getElem? (i := 76) rfl)
theorem dX0_gives_145 : decode cX0_gives 145 = .ok (.iinc 6 (-1), 3) := DX0_gives (145, .iinc 6 (-1), 3) (List.mem_of_getElem? (i := 77) rfl)
theorem dX0_gives_148 : decode cX0_gives 148 = .ok (.aload_n 0, 1) := DX0_gives (148, .aload_n 0, 1) (List.mem_of_getElem? (i := 78) rfl)
theorem dX0_gives_149 : decode cX0_gives 149 = .ok (.getfield 26, 3) := DX0_gives (149, .getfield 26, 3) (List.mem_of_getElem? (i := 79) rfl)
theorem dX0_gives_152 : decode cX0_gives 152 = .ok (.iload 6, 2) := DX0_gives (152, .iload 6, 2) (List.mem_of_getElem? (i := 80) rfl)
theorem dX0_gives_154 : decode cX0_gives 154 = .ok (.iconst 1, 1) := DX0_gives (154, .iconst 1, 1) (List.mem_of_getElem? (i := 81) rfl)
theorem dX0_gives_155 : decode cX0_gives 155 = .ok (.isub, 1) := DX0_gives (155, .isub, 1) (List.mem_of_getElem? (i := 82) rfl)
theorem dX0_gives_156 : decode cX0_gives 156 = .ok (.iload 8, 2) := DX0_gives (156, .iload 8, 2) (List.mem_of_getElem? (i := 83) rfl)
theorem dX0_gives_158 : decode cX0_gives 158 = .ok (.ineg, 1) := DX0_gives (158, .ineg, 1) (List.mem_of_getElem? (i := 84) rfl)
theorem dX0_gives_159 : decode cX0_gives 159 = .ok (.aload_n 0, 1) := DX0_gives (159, .aload_n 0, 1) (List.mem_of_getElem? (i := 85) rfl)
theorem dX0_gives_160 : decode cX0_gives 160 = .ok (.getfield 26, 3) := DX0_gives (160, .getfield 26, 3) (List.mem_of_getElem? (i := 86) rfl)
theorem dX0_gives_163 : decode cX0_gives 163 = .ok (.iload 6, 2) := DX0_gives (163, .iload 6, 2) (List.mem_of_getElem? (i := 87) rfl)
theorem dX0_gives_165 : decode cX0_gives 165 = .ok (.iconst 1, 1) := DX0_gives (165, .iconst 1, 1) (List.mem_of_getElem? (i := 88) rfl)
theorem dX0_gives_166 : decode cX0_gives 166 = .ok (.isub, 1) := DX0_gives (166, .isub, 1) (List.mem_of_getElem? (i := 89) rfl)
theorem dX0_gives_167 : decode cX0_gives 167 = .ok (.iaload, 1) := DX0_gives (167, .iaload, 1) (List.mem_of_getElem? (i := 90) rfl)
theorem dX0_gives_168 : decode cX0_gives 168 = .ok (.aload_n 0, 1) := DX0_gives (168, .aload_n 0, 1) (List.mem_of_getElem? (i := 91) rfl)
theorem dX0_gives_169 : decode cX0_gives 169 = .ok (.getfield 26, 3) := DX0_gives (169, .getfield 26, 3) (List.mem_of_getElem? (i := 92) rfl)
theorem dX0_gives_172 : decode cX0_gives 172 = .ok (.iload 6, 2) := DX0_gives (172, .iload 6, 2) (List.mem_of_getElem? (i := 93) rfl)
theorem dX0_gives_174 : decode cX0_gives 174 = .ok (.iaload, 1) := DX0_gives (174, .iaload, 1) (List.mem_of_getElem? (i := 94) rfl)
theorem dX0_gives_175 : decode cX0_gives 175 = .ok (.invokestatic 58, 3) := DX0_gives (175, .invokestatic 58, 3) (List.mem_of_getElem? (i := 95) rfl)
theorem dX0_gives_178 : decode cX0_gives 178 = .ok (.iastore, 1) := DX0_gives (178, .iastore, 1) (List.mem_of_getElem? (i := 96) rfl)
theorem dX0_gives_179 : decode cX0_gives 179 = .ok (.iinc 7 1, 3) := DX0_gives (179, .iinc 7 1, 3) (List.mem_of_getElem? (i := 97) rfl)
theorem dX0_gives_182 : decode cX0_gives 182 = .ok (.goto (-156), 3) := DX0_gives (182, .goto (-156), 3) (List.mem_of_getElem? (i := 98) rfl)
theorem dX0_gives_185 : decode cX0_gives 185 = .ok (.aload_n 0, 1) := DX0_gives (185, .aload_n 0, 1) (List.mem_of_getElem? (i := 99) rfl)
theorem dX0_gives_186 : decode cX0_gives 186 = .ok (.getfield 26, 3) := DX0_gives (186, .getfield 26, 3) (List.mem_of_getElem? (i := 100) rfl)
theorem dX0_gives_189 : decode cX0_gives 189 = .ok (.iconst 0, 1) := DX0_gives (189, .iconst 0, 1) (List.mem_of_getElem? (i := 101) rfl)
theorem dX0_gives_190 : decode cX0_gives 190 = .ok (.iaload, 1) := DX0_gives (190, .iaload, 1) (List.mem_of_getElem? (i := 102) rfl)
theorem dX0_gives_191 : decode cX0_gives 191 = .ok (.ireturn, 1) := DX0_gives (191, .ireturn, 1) (List.mem_of_getElem? (i := 103) rfl)
set_option maxRecDepth 100000 in
theorem DX0_leaf : ∀ q ∈ ([(0, .iload_n 0, 1), (1, .tableswitch 33 (-3) (-1) #[31, 29, 27], 27), (28, .iload_n 1, 1), (29, .ireturn, 1), (30, .iload_n 2, 1), (31, .ireturn, 1), (32, .iload_n 3, 1), (33, .ireturn, 1), (34, .iload_n 0, 1), (35, .ireturn, 1)] : List (Nat × Instr × Nat)), decode cX0_leaf q.1 = .ok (q.2.1, q.2.2) := by decide +kernel
theorem dX0_leaf_0 : decode cX0_leaf 0 = .ok (.iload_n 0, 1) := DX0_leaf (0, .iload_n 0, 1) (List.mem_of_getElem? (i := 0) rfl)
theorem dX0_leaf_1 : decode cX0_leaf 1 = .ok (.tableswitch 33 (-3) (-1) #[31, 29, 27], 27) := DX0_leaf (1, .tableswitch 33 (-3) (-1) #[31, 29, 27], 27) (List.mem_of_getElem? (i := 1) rfl)
theorem dX0_leaf_28 : decode cX0_leaf 28 = .ok (.iload_n 1, 1) := DX0_leaf (28, .iload_n 1, 1) (List.mem_of_getElem? (i := 2) rfl)
theorem dX0_leaf_29 : decode cX0_leaf 29 = .ok (.ireturn, 1) := DX0_leaf (29, .ireturn, 1) (List.mem_of_getElem? (i := 3) rfl)
theorem dX0_leaf_30 : decode cX0_leaf 30 = .ok (.iload_n 2, 1) := DX0_leaf (30, .iload_n 2, 1) (List.mem_of_getElem? (i := 4) rfl)
theorem dX0_leaf_31 : decode cX0_leaf 31 = .ok (.ireturn, 1) := DX0_leaf (31, .ireturn, 1) (List.mem_of_getElem? (i := 5) rfl)
theorem dX0_leaf_32 : decode cX0_leaf 32 = .ok (.iload_n 3, 1) := DX0_leaf (32, .iload_n 3, 1) (List.mem_of_getElem? (i := 6) rfl)
theorem dX0_leaf_33 : decode cX0_leaf 33 = .ok (.ireturn, 1) := DX0_leaf (33, .ireturn, 1) (List.mem_of_getElem? (i := 7) rfl)
theorem dX0_leaf_34 : decode cX0_leaf 34 = .ok (.iload_n 0, 1) := DX0_leaf (34, .iload_n 0, 1) (List.mem_of_getElem? (i := 8) rfl)
theorem dX0_leaf_35 : decode cX0_leaf 35 = .ok (.ireturn, 1) := DX0_leaf (35, .ireturn, 1) (List.mem_of_getElem? (i := 9) rfl)
set_option maxRecDepth 100000 in
theorem DX0_joined : ∀ q ∈ ([(0, .iload_n 0, 1), (1, .lookupswitch 148 #[(38, 89), (42, 144), (43, 136), (45, 140), (60, 103), (61, 114), (62, 125), (124, 75)], 75), (76, .iload_n 1, 1), (77, .ifCond .ne 7, 3), (80, .iload_n 2, 1), (81, .ifCond .eq 7, 3), (84, .iconst 1, 1), (85, .goto 4, 3), (88, .iconst 0, 1), (89, .ireturn, 1), (90, .iload_n 1, 1), (91, .ifCond .eq 11, 3), (94, .iload_n 2, 1), (95, .ifCond .eq 7, 3), (98, .iconst 1, 1), (99, .goto 4, 3), (102, .iconst 0, 1), (103, .ireturn, 1), (104, .iload_n 1, 1), (105, .iload_n 2, 1), (106, .if_icmp .ge 7, 3), (109, .iconst 1, 1), (110, .goto 4, 3), (113, .iconst 0, 1), (114, .ireturn, 1), (115, .iload_n 1, 1), (116, .iload_n 2, 1), (117, .if_icmp .ne 7, 3), (120, .iconst 1, 1), (121, .goto 4, 3), (124, .iconst 0, 1), (125, .ireturn, 1), (126, .iload_n 1, 1), (127, .iload_n 2, 1), (128, .if_icmp .le 7, 3), (131, .iconst 1, 1), (132, .goto 4, 3), (135, .iconst 0, 1), (136, .ireturn, 1), (137, .iload_n 1, 1), (138, .iload_n 2, 1), (139, .iadd, 1), (140, .ireturn, 1), (141, .iload_n 1, 1), (142, .iload_n 2, 1), (143, .isub, 1), (144, .ireturn, 1), (145, .iload_n 1, 1), (146, .iload_n 2, 1), (147, .imul, 1), (148, .ireturn, 1), (149, .iload_n 2, 1), (150, .ifCond .ne 7, 3), (153, .iconst 0, 1), (154, .goto 6, 3), (157, .iload_n 1, 1), (158, .iload_n 2, 1), (159, .idiv, 1), (160, .ireturn, 1)] : List (Nat × Instr × Nat)), decode cX0_joined q.1 = .ok (q.2.1, q.2.2) := by decide +kernel
theorem dX0_joined_0 : decode cX0_joined 0 = .ok (.iload_n 0, 1) := DX0_joined (0, .iload_n 0, 1) (List.mem_of_getElem? (i := 0) rfl)
theorem dX0_joined_1 : decode cX0_joined 1 = .ok (.lookupswitch 148 #[(38, 89), (42, 144), (43, 136), (45, 140), (60, 103), (61, 114), (62, 125), (124, 75)], 75) := DX0_joined (1, .lookupswitch 148 #[(38, 89), (42, 144), (43, 136), (45, 140), (60, 103), (61, 114), (62, 125), (124, 75)], 75) (List.mem_of_getElem? (i := 1) rfl)
theorem dX0_joined_76 : decode cX0_joined 76 = .ok (.iload_n 1, 1) := DX0_joined (76, .iload_n 1, 1) (List.mem_of_getElem? (i := 2) rfl)
theorem dX0_joined_77 : decode cX0_joined 77 = .ok (.ifCond .ne 7, 3) := DX0_joined (77, .ifCond .ne 7, 3) (List.mem_of_getElem? (i := 3) rfl)
theorem dX0_joined_80 : decode cX0_joined 80 = .ok (.iload_n 2, 1) := DX0_joined (80, .iload_n 2, 1) (List.mem_of_getElem? (i := 4) rfl)
theorem dX0_joined_81 : decode cX0_joined 81 = .ok (.ifCond .eq 7, 3) := DX0_joined (81, .ifCond .eq 7, 3) (List.mem_of_getElem? (i := 5) rfl)
theorem dX0_joined_84 : decode cX0_joined 84 = .ok (.iconst 1, 1) := DX0_joined (84, .iconst 1, 1) (List.mem_of_getElem? (i := 6) rfl)
theorem dX0_joined_85 : decode cX0_joined 85 = .ok (.goto 4, 3) := DX0_joined (85, .goto 4, 3) (List.mem_of_getElem? (i := 7) rfl)
theorem dX0_joined_88 : decode cX0_joined 88 = .ok (.iconst 0, 1) := DX0_joined (88, .iconst 0, 1) (List.mem_of_getElem? (i := 8) rfl)
theorem dX0_joined_89 : decode cX0_joined 89 = .ok (.ireturn, 1) := DX0_joined (89, .ireturn, 1) (List.mem_of_getElem? (i := 9) rfl)
theorem dX0_joined_90 : decode cX0_joined 90 = .ok (.iload_n 1, 1) := DX0_joined (90, .iload_n 1, 1) (List.mem_of_getElem? (i := 10) rfl)
theorem dX0_joined_91 : decode cX0_joined 91 = .ok (.ifCond .eq 11, 3) := DX0_joined (91, .ifCond .eq 11, 3) (List.mem_of_getElem? (i := 11) rfl)
theorem dX0_joined_94 : decode cX0_joined 94 = .ok (.iload_n 2, 1) := DX0_joined (94, .iload_n 2, 1) (List.mem_of_getElem? (i := 12) rfl)
theorem dX0_joined_95 : decode cX0_joined 95 = .ok (.ifCond .eq 7, 3) := DX0_joined (95, .ifCond .eq 7, 3) (List.mem_of_getElem? (i := 13) rfl)
theorem dX0_joined_98 : decode cX0_joined 98 = .ok (.iconst 1, 1) := DX0_joined (98, .iconst 1, 1) (List.mem_of_getElem? (i := 14) rfl)
theorem dX0_joined_99 : decode cX0_joined 99 = .ok (.goto 4, 3) := DX0_joined (99, .goto 4, 3) (List.mem_of_getElem? (i := 15) rfl)
theorem dX0_joined_102 : decode cX0_joined 102 = .ok (.iconst 0, 1) := DX0_joined (102, .iconst 0, 1) (List.mem_of_getElem? (i := 16) rfl)
theorem dX0_joined_103 : decode cX0_joined 103 = .ok (.ireturn, 1) := DX0_joined (103, .ireturn, 1) (List.mem_of_getElem? (i := 17) rfl)
theorem dX0_joined_104 : decode cX0_joined 104 = .ok (.iload_n 1, 1) := DX0_joined (104, .iload_n 1, 1) (List.mem_of_getElem? (i := 18) rfl)
theorem dX0_joined_105 : decode cX0_joined 105 = .ok (.iload_n 2, 1) := DX0_joined (105, .iload_n 2, 1) (List.mem_of_getElem? (i := 19) rfl)
theorem dX0_joined_106 : decode cX0_joined 106 = .ok (.if_icmp .ge 7, 3) := DX0_joined (106, .if_icmp .ge 7, 3) (List.mem_of_getElem? (i := 20) rfl)
theorem dX0_joined_109 : decode cX0_joined 109 = .ok (.iconst 1, 1) := DX0_joined (109, .iconst 1, 1) (List.mem_of_getElem? (i := 21) rfl)
theorem dX0_joined_110 : decode cX0_joined 110 = .ok (.goto 4, 3) := DX0_joined (110, .goto 4, 3) (List.mem_of_getElem? (i := 22) rfl)
theorem dX0_joined_113 : decode cX0_joined 113 = .ok (.iconst 0, 1) := DX0_joined (113, .iconst 0, 1) (List.mem_of_getElem? (i := 23) rfl)
theorem dX0_joined_114 : decode cX0_joined 114 = .ok (.ireturn, 1) := DX0_joined (114, .ireturn, 1) (List.mem_of_getElem? (i := 24) rfl)
theorem dX0_joined_115 : decode cX0_joined 115 = .ok (.iload_n 1, 1) := DX0_joined (115, .iload_n 1, 1) (List.mem_of_getElem? (i := 25) rfl)
theorem dX0_joined_116 : decode cX0_joined 116 = .ok (.iload_n 2, 1) := DX0_joined (116, .iload_n 2, 1) (List.mem_of_getElem? (i := 26) rfl)
theorem dX0_joined_117 : decode cX0_joined 117 = .ok (.if_icmp .ne 7, 3) := DX0_joined (117, .if_icmp .ne 7, 3) (List.mem_of_getElem? (i := 27) rfl)
theorem dX0_joined_120 : decode cX0_joined 120 = .ok (.iconst 1, 1) := DX0_joined (120, .iconst 1, 1) (List.mem_of_getElem? (i := 28) rfl)
theorem dX0_joined_121 : decode cX0_joined 121 = .ok (.goto 4, 3) := DX0_joined (121, .goto 4, 3) (List.mem_of_getElem? (i := 29) rfl)
theorem dX0_joined_124 : decode cX0_joined 124 = .ok (.iconst 0, 1) := DX0_joined (124, .iconst 0, 1) (List.mem_of_getElem? (i := 30) rfl)
theorem dX0_joined_125 : decode cX0_joined 125 = .ok (.ireturn, 1) := DX0_joined (125, .ireturn, 1) (List.mem_of_getElem? (i := 31) rfl)
theorem dX0_joined_126 : decode cX0_joined 126 = .ok (.iload_n 1, 1) := DX0_joined (126, .iload_n 1, 1) (List.mem_of_getElem? (i := 32) rfl)
theorem dX0_joined_127 : decode cX0_joined 127 = .ok (.iload_n 2, 1) := DX0_joined (127, .iload_n 2, 1) (List.mem_of_getElem? (i := 33) rfl)
theorem dX0_joined_128 : decode cX0_joined 128 = .ok (.if_icmp .le 7, 3) := DX0_joined (128, .if_icmp .le 7, 3) (List.mem_of_getElem? (i := 34) rfl)
theorem dX0_joined_131 : decode cX0_joined 131 = .ok (.iconst 1, 1) := DX0_joined (131, .iconst 1, 1) (List.mem_of_getElem? (i := 35) rfl)
theorem dX0_joined_132 : decode cX0_joined 132 = .ok (.goto 4, 3) := DX0_joined (132, .goto 4, 3) (List.mem_of_getElem? (i := 36) rfl)
theorem dX0_joined_135 : decode cX0_joined 135 = .ok (.iconst 0, 1) := DX0_joined (135, .iconst 0, 1) (List.mem_of_getElem? (i := 37) rfl)
theorem dX0_joined_136 : decode cX0_joined 136 = .ok (.ireturn, 1) := DX0_joined (136, .ireturn, 1) (List.mem_of_getElem? (i := 38) rfl)
theorem dX0_joined_137 : decode cX0_joined 137 = .ok (.iload_n 1, 1) := DX0_joined (137, .iload_n 1, 1) (List.mem_of_getElem? (i := 39) rfl)
theorem dX0_joined_138 : decode cX0_joined 138 = .ok (.iload_n 2, 1) := DX0_joined (138, .iload_n 2, 1) (List.mem_of_getElem? (i := 40) rfl)
theorem dX0_joined_139 : decode cX0_joined 139 = .ok (.iadd, 1) := DX0_joined (139, .iadd, 1) (List.mem_of_getElem? (i := 41) rfl)
theorem dX0_joined_140 : decode cX0_joined 140 = .ok (.ireturn, 1) := DX0_joined (140, .ireturn, 1) (List.mem_of_getElem? (i := 42) rfl)
theorem dX0_joined_141 : decode cX0_joined 141 = .ok (.iload_n 1, 1) := DX0_joined (141, .iload_n 1, 1) (List.mem_of_getElem? (i := 43) rfl)
theorem dX0_joined_142 : decode cX0_joined 142 = .ok (.iload_n 2, 1) := DX0_joined (142, .iload_n 2, 1) (List.mem_of_getElem? (i := 44) rfl)
theorem dX0_joined_143 : decode cX0_joined 143 = .ok (.isub, 1) := DX0_joined (143, .isub, 1) (List.mem_of_getElem? (i := 45) rfl)
theorem dX0_joined_144 : decode cX0_joined 144 = .ok (.ireturn, 1) := DX0_joined (144, .ireturn, 1) (List.mem_of_getElem? (i := 46) rfl)
theorem dX0_joined_145 : decode cX0_joined 145 = .ok (.iload_n 1, 1) := DX0_joined (145, .iload_n 1, 1) (List.mem_of_getElem? (i := 47) rfl)
theorem dX0_joined_146 : decode cX0_joined 146 = .ok (.iload_n 2, 1) := DX0_joined (146, .iload_n 2, 1) (List.mem_of_getElem? (i := 48) rfl)
theorem dX0_joined_147 : decode cX0_joined 147 = .ok (.imul, 1) := DX0_joined (147, .imul, 1) (List.mem_of_getElem? (i := 49) rfl)
theorem dX0_joined_148 : decode cX0_joined 148 = .ok (.ireturn, 1) := DX0_joined (148, .ireturn, 1) (List.mem_of_getElem? (i := 50) rfl)
theorem dX0_joined_149 : decode cX0_joined 149 = .ok (.iload_n 2, 1) := DX0_joined (149, .iload_n 2, 1) (List.mem_of_getElem? (i := 51) rfl)
theorem dX0_joined_150 : decode cX0_joined 150 = .ok (.ifCond .ne 7, 3) := DX0_joined (150, .ifCond .ne 7, 3) (List.mem_of_getElem? (i := 52) rfl)
theorem dX0_joined_153 : decode cX0_joined 153 = .ok (.iconst 0, 1) := DX0_joined (153, .iconst 0, 1) (List.mem_of_getElem? (i := 53) rfl)
theorem dX0_joined_154 : decode cX0_joined 154 = .ok (.goto 6, 3) := DX0_joined (154, .goto 6, 3) (List.mem_of_getElem? (i := 54) rfl)
theorem dX0_joined_157 : decode cX0_joined 157 = .ok (.iload_n 1, 1) := DX0_joined (157, .iload_n 1, 1) (List.mem_of_getElem? (i := 55) rfl)
theorem dX0_joined_158 : decode cX0_joined 158 = .ok (.iload_n 2, 1) := DX0_joined (158, .iload_n 2, 1) (List.mem_of_getElem? (i := 56) rfl)
theorem dX0_joined_159 : decode cX0_joined 159 = .ok (.idiv, 1) := DX0_joined (159, .idiv, 1) (List.mem_of_getElem? (i := 57) rfl)
theorem dX0_joined_160 : decode cX0_joined 160 = .ok (.ireturn, 1) := DX0_joined (160, .ireturn, 1) (List.mem_of_getElem? (i := 58) rfl)
set_option maxRecDepth 100000 in
theorem DX1_isOf : ∀ q ∈ ([(0, .iload_n 0, 1), (1, .istore_n 2, 1), (2, .iconst 0, 1), (3, .istore_n 3, 1), (4, .iload_n 3, 1), (5, .iconst 5, 1), (6, .if_icmp .gt 34, 3), (9, .iload_n 2, 1), (10, .ifCond .lt 30, 3), (13, .iload_n 2, 1), (14, .getstatic 9, 3), (17, .arraylength, 1), (18, .if_icmp .ge 22, 3), (21, .iload_n 2, 1), (22, .iload_n 1, 1), (23, .if_icmp .ne 5, 3), (26, .iconst 1, 1), (27, .ireturn, 1), (28, .getstatic 9, 3), (31, .iload_n 2, 1), (32, .iaload, 1), (33, .istore_n 2, 1), (34, .iinc 3 1, 3), (37, .goto (-33), 3), (40, .iconst 0, 1), (41, .ireturn, 1)] : List (Nat × Instr × Nat)), decode cX1_isOf q.1 = .ok (q.2.1, q.2.2) := by decide +kernel
theorem dX1_isOf_0 : decode cX1_isOf 0 = .ok (.iload_n 0, 1) := DX1_isOf (0, .iload_n 0, 1) (List.mem_of_getElem? (i := 0) rfl)
theorem dX1_isOf_1 : decode cX1_isOf 1 = .ok (.istore_n 2, 1) := DX1_isOf (1, .istore_n 2, 1) (List.mem_of_getElem? (i := 1) rfl)
theorem dX1_isOf_2 : decode cX1_isOf 2 = .ok (.iconst 0, 1) := DX1_isOf (2, .iconst 0, 1) (List.mem_of_getElem? (i := 2) rfl)
theorem dX1_isOf_3 : decode cX1_isOf 3 = .ok (.istore_n 3, 1) := DX1_isOf (3, .istore_n 3, 1) (List.mem_of_getElem? (i := 3) rfl)
theorem dX1_isOf_4 : decode cX1_isOf 4 = .ok (.iload_n 3, 1) := DX1_isOf (4, .iload_n 3, 1) (List.mem_of_getElem? (i := 4) rfl)
theorem dX1_isOf_5 : decode cX1_isOf 5 = .ok (.iconst 5, 1) := DX1_isOf (5, .iconst 5, 1) (List.mem_of_getElem? (i := 5) rfl)
theorem dX1_isOf_6 : decode cX1_isOf 6 = .ok (.if_icmp .gt 34, 3) := DX1_isOf (6, .if_icmp .gt 34, 3) (List.mem_of_getElem? (i := 6) rfl)
theorem dX1_isOf_9 : decode cX1_isOf 9 = .ok (.iload_n 2, 1) := DX1_isOf (9, .iload_n 2, 1) (List.mem_of_getElem? (i := 7) rfl)
theorem dX1_isOf_10 : decode cX1_isOf 10 = .ok (.ifCond .lt 30, 3) := DX1_isOf (10, .ifCond .lt 30, 3) (List.mem_of_getElem? (i := 8) rfl)
theorem dX1_isOf_13 : decode cX1_isOf 13 = .ok (.iload_n 2, 1) := DX1_isOf (13, .iload_n 2, 1) (List.mem_of_getElem? (i := 9) rfl)
theorem dX1_isOf_14 : decode cX1_isOf 14 = .ok (.getstatic 9, 3) := DX1_isOf (14, .getstatic 9, 3) (List.mem_of_getElem? (i := 10) rfl)
theorem dX1_isOf_17 : decode cX1_isOf 17 = .ok (.arraylength, 1) := DX1_isOf (17, .arraylength, 1) (List.mem_of_getElem? (i := 11) rfl)
theorem dX1_isOf_18 : decode cX1_isOf 18 = .ok (.if_icmp .ge 22, 3) := DX1_isOf (18, .if_icmp .ge 22, 3) (List.mem_of_getElem? (i := 12) rfl)
theorem dX1_isOf_21 : decode cX1_isOf 21 = .ok (.iload_n 2, 1) := DX1_isOf (21, .iload_n 2, 1) (List.mem_of_getElem? (i := 13) rfl)
theorem dX1_isOf_22 : decode cX1_isOf 22 = .ok (.iload_n 1, 1) := DX1_isOf (22, .iload_n 1, 1) (List.mem_of_getElem? (i := 14) rfl)
theorem dX1_isOf_23 : decode cX1_isOf 23 = .ok (.if_icmp .ne 5, 3) := DX1_isOf (23, .if_icmp .ne 5, 3) (List.mem_of_getElem? (i := 15) rfl)
theorem dX1_isOf_26 : decode cX1_isOf 26 = .ok (.iconst 1, 1) := DX1_isOf (26, .iconst 1, 1) (List.mem_of_getElem? (i := 16) rfl)
theorem dX1_isOf_27 : decode cX1_isOf 27 = .ok (.ireturn, 1) := DX1_isOf (27, .ireturn, 1) (List.mem_of_getElem? (i := 17) rfl)
theorem dX1_isOf_28 : decode cX1_isOf 28 = .ok (.getstatic 9, 3) := DX1_isOf (28, .getstatic 9, 3) (List.mem_of_getElem? (i := 18) rfl)
theorem dX1_isOf_31 : decode cX1_isOf 31 = .ok (.iload_n 2, 1) := DX1_isOf (31, .iload_n 2, 1) (List.mem_of_getElem? (i := 19) rfl)
theorem dX1_isOf_32 : decode cX1_isOf 32 = .ok (.iaload, 1) := DX1_isOf (32, .iaload, 1) (List.mem_of_getElem? (i := 20) rfl)
theorem dX1_isOf_33 : decode cX1_isOf 33 = .ok (.istore_n 2, 1) := DX1_isOf (33, .istore_n 2, 1) (List.mem_of_getElem? (i := 21) rfl)
theorem dX1_isOf_34 : decode cX1_isOf 34 = .ok (.iinc 3 1, 3) := DX1_isOf (34, .iinc 3 1, 3) (List.mem_of_getElem? (i := 22) rfl)
theorem dX1_isOf_37 : decode cX1_isOf 37 = .ok (.goto (-33), 3) := DX1_isOf (37, .goto (-33), 3) (List.mem_of_getElem? (i := 23) rfl)
theorem dX1_isOf_40 : decode cX1_isOf 40 = .ok (.iconst 0, 1) := DX1_isOf (40, .iconst 0, 1) (List.mem_of_getElem? (i := 24) rfl)
theorem dX1_isOf_41 : decode cX1_isOf 41 = .ok (.ireturn, 1) := DX1_isOf (41, .ireturn, 1) (List.mem_of_getElem? (i := 25) rfl)
set_option maxRecDepth 100000 in
theorem DX1_owes : ∀ q ∈ ([(0, .iload_n 0, 1), (1, .tableswitch 57 1 5 #[35, 45, 39, 45, 53], 35), (36, .iload_n 1, 1), (37, .iconst 2, 1), (38, .idiv, 1), (39, .ireturn, 1), (40, .iload_n 1, 1), (41, .iconst 2, 1), (42, .idiv, 1), (43, .iconst 2, 1), (44, .iadd, 1), (45, .ireturn, 1), (46, .iload_n 1, 1), (47, .iconst 4, 1), (48, .isub, 1), (49, .iconst 0, 1), (50, .invokestatic 15, 3), (53, .ireturn, 1), (54, .iconst 2, 1), (55, .iload_n 1, 1), (56, .imul, 1), (57, .ireturn, 1), (58, .iload_n 1, 1), (59, .ireturn, 1)] : List (Nat × Instr × Nat)), decode cX1_owes q.1 = .ok (q.2.1, q.2.2) := by decide +kernel
theorem dX1_owes_0 : decode cX1_owes 0 = .ok (.iload_n 0, 1) := DX1_owes (0, .iload_n 0, 1) (List.mem_of_getElem? (i := 0) rfl)
theorem dX1_owes_1 : decode cX1_owes 1 = .ok (.tableswitch 57 1 5 #[35, 45, 39, 45, 53], 35) := DX1_owes (1, .tableswitch 57 1 5 #[35, 45, 39, 45, 53], 35) (List.mem_of_getElem? (i := 1) rfl)
theorem dX1_owes_36 : decode cX1_owes 36 = .ok (.iload_n 1, 1) := DX1_owes (36, .iload_n 1, 1) (List.mem_of_getElem? (i := 2) rfl)
theorem dX1_owes_37 : decode cX1_owes 37 = .ok (.iconst 2, 1) := DX1_owes (37, .iconst 2, 1) (List.mem_of_getElem? (i := 3) rfl)
theorem dX1_owes_38 : decode cX1_owes 38 = .ok (.idiv, 1) := DX1_owes (38, .idiv, 1) (List.mem_of_getElem? (i := 4) rfl)
theorem dX1_owes_39 : decode cX1_owes 39 = .ok (.ireturn, 1) := DX1_owes (39, .ireturn, 1) (List.mem_of_getElem? (i := 5) rfl)
theorem dX1_owes_40 : decode cX1_owes 40 = .ok (.iload_n 1, 1) := DX1_owes (40, .iload_n 1, 1) (List.mem_of_getElem? (i := 6) rfl)
theorem dX1_owes_41 : decode cX1_owes 41 = .ok (.iconst 2, 1) := DX1_owes (41, .iconst 2, 1) (List.mem_of_getElem? (i := 7) rfl)
theorem dX1_owes_42 : decode cX1_owes 42 = .ok (.idiv, 1) := DX1_owes (42, .idiv, 1) (List.mem_of_getElem? (i := 8) rfl)
theorem dX1_owes_43 : decode cX1_owes 43 = .ok (.iconst 2, 1) := DX1_owes (43, .iconst 2, 1) (List.mem_of_getElem? (i := 9) rfl)
theorem dX1_owes_44 : decode cX1_owes 44 = .ok (.iadd, 1) := DX1_owes (44, .iadd, 1) (List.mem_of_getElem? (i := 10) rfl)
theorem dX1_owes_45 : decode cX1_owes 45 = .ok (.ireturn, 1) := DX1_owes (45, .ireturn, 1) (List.mem_of_getElem? (i := 11) rfl)
theorem dX1_owes_46 : decode cX1_owes 46 = .ok (.iload_n 1, 1) := DX1_owes (46, .iload_n 1, 1) (List.mem_of_getElem? (i := 12) rfl)
theorem dX1_owes_47 : decode cX1_owes 47 = .ok (.iconst 4, 1) := DX1_owes (47, .iconst 4, 1) (List.mem_of_getElem? (i := 13) rfl)
theorem dX1_owes_48 : decode cX1_owes 48 = .ok (.isub, 1) := DX1_owes (48, .isub, 1) (List.mem_of_getElem? (i := 14) rfl)
theorem dX1_owes_49 : decode cX1_owes 49 = .ok (.iconst 0, 1) := DX1_owes (49, .iconst 0, 1) (List.mem_of_getElem? (i := 15) rfl)
theorem dX1_owes_50 : decode cX1_owes 50 = .ok (.invokestatic 15, 3) := DX1_owes (50, .invokestatic 15, 3) (List.mem_of_getElem? (i := 16) rfl)
theorem dX1_owes_53 : decode cX1_owes 53 = .ok (.ireturn, 1) := DX1_owes (53, .ireturn, 1) (List.mem_of_getElem? (i := 17) rfl)
theorem dX1_owes_54 : decode cX1_owes 54 = .ok (.iconst 2, 1) := DX1_owes (54, .iconst 2, 1) (List.mem_of_getElem? (i := 18) rfl)
theorem dX1_owes_55 : decode cX1_owes 55 = .ok (.iload_n 1, 1) := DX1_owes (55, .iload_n 1, 1) (List.mem_of_getElem? (i := 19) rfl)
theorem dX1_owes_56 : decode cX1_owes 56 = .ok (.imul, 1) := DX1_owes (56, .imul, 1) (List.mem_of_getElem? (i := 20) rfl)
theorem dX1_owes_57 : decode cX1_owes 57 = .ok (.ireturn, 1) := DX1_owes (57, .ireturn, 1) (List.mem_of_getElem? (i := 21) rfl)
theorem dX1_owes_58 : decode cX1_owes 58 = .ok (.iload_n 1, 1) := DX1_owes (58, .iload_n 1, 1) (List.mem_of_getElem? (i := 22) rfl)
theorem dX1_owes_59 : decode cX1_owes 59 = .ok (.ireturn, 1) := DX1_owes (59, .ireturn, 1) (List.mem_of_getElem? (i := 23) rfl)
set_option maxRecDepth 100000 in
theorem DX1_asks : ∀ q ∈ ([(0, .iload_n 0, 1), (1, .tableswitch 47 1 4 #[31, 41, 35, 45], 31), (32, .iload_n 1, 1), (33, .iconst 5, 1), (34, .iadd, 1), (35, .ireturn, 1), (36, .iconst 2, 1), (37, .iload_n 1, 1), (38, .iconst 5, 1), (39, .iadd, 1), (40, .imul, 1), (41, .ireturn, 1), (42, .iload_n 1, 1), (43, .iconst 2, 1), (44, .idiv, 1), (45, .ireturn, 1), (46, .iconst 0, 1), (47, .ireturn, 1), (48, .iload_n 1, 1), (49, .ireturn, 1)] : List (Nat × Instr × Nat)), decode cX1_asks q.1 = .ok (q.2.1, q.2.2) := by decide +kernel
theorem dX1_asks_0 : decode cX1_asks 0 = .ok (.iload_n 0, 1) := DX1_asks (0, .iload_n 0, 1) (List.mem_of_getElem? (i := 0) rfl)
theorem dX1_asks_1 : decode cX1_asks 1 = .ok (.tableswitch 47 1 4 #[31, 41, 35, 45], 31) := DX1_asks (1, .tableswitch 47 1 4 #[31, 41, 35, 45], 31) (List.mem_of_getElem? (i := 1) rfl)
theorem dX1_asks_32 : decode cX1_asks 32 = .ok (.iload_n 1, 1) := DX1_asks (32, .iload_n 1, 1) (List.mem_of_getElem? (i := 2) rfl)
theorem dX1_asks_33 : decode cX1_asks 33 = .ok (.iconst 5, 1) := DX1_asks (33, .iconst 5, 1) (List.mem_of_getElem? (i := 3) rfl)
theorem dX1_asks_34 : decode cX1_asks 34 = .ok (.iadd, 1) := DX1_asks (34, .iadd, 1) (List.mem_of_getElem? (i := 4) rfl)
theorem dX1_asks_35 : decode cX1_asks 35 = .ok (.ireturn, 1) := DX1_asks (35, .ireturn, 1) (List.mem_of_getElem? (i := 5) rfl)
theorem dX1_asks_36 : decode cX1_asks 36 = .ok (.iconst 2, 1) := DX1_asks (36, .iconst 2, 1) (List.mem_of_getElem? (i := 6) rfl)
theorem dX1_asks_37 : decode cX1_asks 37 = .ok (.iload_n 1, 1) := DX1_asks (37, .iload_n 1, 1) (List.mem_of_getElem? (i := 7) rfl)
theorem dX1_asks_38 : decode cX1_asks 38 = .ok (.iconst 5, 1) := DX1_asks (38, .iconst 5, 1) (List.mem_of_getElem? (i := 8) rfl)
theorem dX1_asks_39 : decode cX1_asks 39 = .ok (.iadd, 1) := DX1_asks (39, .iadd, 1) (List.mem_of_getElem? (i := 9) rfl)
theorem dX1_asks_40 : decode cX1_asks 40 = .ok (.imul, 1) := DX1_asks (40, .imul, 1) (List.mem_of_getElem? (i := 10) rfl)
theorem dX1_asks_41 : decode cX1_asks 41 = .ok (.ireturn, 1) := DX1_asks (41, .ireturn, 1) (List.mem_of_getElem? (i := 11) rfl)
theorem dX1_asks_42 : decode cX1_asks 42 = .ok (.iload_n 1, 1) := DX1_asks (42, .iload_n 1, 1) (List.mem_of_getElem? (i := 12) rfl)
theorem dX1_asks_43 : decode cX1_asks 43 = .ok (.iconst 2, 1) := DX1_asks (43, .iconst 2, 1) (List.mem_of_getElem? (i := 13) rfl)
theorem dX1_asks_44 : decode cX1_asks 44 = .ok (.idiv, 1) := DX1_asks (44, .idiv, 1) (List.mem_of_getElem? (i := 14) rfl)
theorem dX1_asks_45 : decode cX1_asks 45 = .ok (.ireturn, 1) := DX1_asks (45, .ireturn, 1) (List.mem_of_getElem? (i := 15) rfl)
theorem dX1_asks_46 : decode cX1_asks 46 = .ok (.iconst 0, 1) := DX1_asks (46, .iconst 0, 1) (List.mem_of_getElem? (i := 16) rfl)
theorem dX1_asks_47 : decode cX1_asks 47 = .ok (.ireturn, 1) := DX1_asks (47, .ireturn, 1) (List.mem_of_getElem? (i := 17) rfl)
theorem dX1_asks_48 : decode cX1_asks 48 = .ok (.iload_n 1, 1) := DX1_asks (48, .iload_n 1, 1) (List.mem_of_getElem? (i := 18) rfl)
theorem dX1_asks_49 : decode cX1_asks 49 = .ok (.ireturn, 1) := DX1_asks (49, .ireturn, 1) (List.mem_of_getElem? (i := 19) rfl)
set_option maxRecDepth 100000 in
theorem DX1_worth : ∀ q ∈ ([(0, .iload_n 0, 1), (1, .tableswitch 62 1 5 #[35, 47, 40, 52, 60], 35), (36, .iload_n 1, 1), (37, .bipush 9, 2), (39, .iadd, 1), (40, .ireturn, 1), (41, .iconst 2, 1), (42, .iload_n 1, 1), (43, .bipush 9, 2), (45, .iadd, 1), (46, .imul, 1), (47, .ireturn, 1), (48, .bipush 99, 2), (50, .iload_n 1, 1), (51, .isub, 1), (52, .ireturn, 1), (53, .bipush 99, 2), (55, .iload_n 1, 1), (56, .isub, 1), (57, .bipush 6, 2), (59, .isub, 1), (60, .ireturn, 1), (61, .iconst 2, 1), (62, .ireturn, 1), (63, .iload_n 1, 1), (64, .ireturn, 1)] : List (Nat × Instr × Nat)), decode cX1_worth q.1 = .ok (q.2.1, q.2.2) := by decide +kernel
theorem dX1_worth_0 : decode cX1_worth 0 = .ok (.iload_n 0, 1) := DX1_worth (0, .iload_n 0, 1) (List.mem_of_getElem? (i := 0) rfl)
theorem dX1_worth_1 : decode cX1_worth 1 = .ok (.tableswitch 62 1 5 #[35, 47, 40, 52, 60], 35) := DX1_worth (1, .tableswitch 62 1 5 #[35, 47, 40, 52, 60], 35) (List.mem_of_getElem? (i := 1) rfl)
theorem dX1_worth_36 : decode cX1_worth 36 = .ok (.iload_n 1, 1) := DX1_worth (36, .iload_n 1, 1) (List.mem_of_getElem? (i := 2) rfl)
theorem dX1_worth_37 : decode cX1_worth 37 = .ok (.bipush 9, 2) := DX1_worth (37, .bipush 9, 2) (List.mem_of_getElem? (i := 3) rfl)
theorem dX1_worth_39 : decode cX1_worth 39 = .ok (.iadd, 1) := DX1_worth (39, .iadd, 1) (List.mem_of_getElem? (i := 4) rfl)
theorem dX1_worth_40 : decode cX1_worth 40 = .ok (.ireturn, 1) := DX1_worth (40, .ireturn, 1) (List.mem_of_getElem? (i := 5) rfl)
theorem dX1_worth_41 : decode cX1_worth 41 = .ok (.iconst 2, 1) := DX1_worth (41, .iconst 2, 1) (List.mem_of_getElem? (i := 6) rfl)
theorem dX1_worth_42 : decode cX1_worth 42 = .ok (.iload_n 1, 1) := DX1_worth (42, .iload_n 1, 1) (List.mem_of_getElem? (i := 7) rfl)
theorem dX1_worth_43 : decode cX1_worth 43 = .ok (.bipush 9, 2) := DX1_worth (43, .bipush 9, 2) (List.mem_of_getElem? (i := 8) rfl)
theorem dX1_worth_45 : decode cX1_worth 45 = .ok (.iadd, 1) := DX1_worth (45, .iadd, 1) (List.mem_of_getElem? (i := 9) rfl)
theorem dX1_worth_46 : decode cX1_worth 46 = .ok (.imul, 1) := DX1_worth (46, .imul, 1) (List.mem_of_getElem? (i := 10) rfl)
theorem dX1_worth_47 : decode cX1_worth 47 = .ok (.ireturn, 1) := DX1_worth (47, .ireturn, 1) (List.mem_of_getElem? (i := 11) rfl)
theorem dX1_worth_48 : decode cX1_worth 48 = .ok (.bipush 99, 2) := DX1_worth (48, .bipush 99, 2) (List.mem_of_getElem? (i := 12) rfl)
theorem dX1_worth_50 : decode cX1_worth 50 = .ok (.iload_n 1, 1) := DX1_worth (50, .iload_n 1, 1) (List.mem_of_getElem? (i := 13) rfl)
theorem dX1_worth_51 : decode cX1_worth 51 = .ok (.isub, 1) := DX1_worth (51, .isub, 1) (List.mem_of_getElem? (i := 14) rfl)
theorem dX1_worth_52 : decode cX1_worth 52 = .ok (.ireturn, 1) := DX1_worth (52, .ireturn, 1) (List.mem_of_getElem? (i := 15) rfl)
theorem dX1_worth_53 : decode cX1_worth 53 = .ok (.bipush 99, 2) := DX1_worth (53, .bipush 99, 2) (List.mem_of_getElem? (i := 16) rfl)
theorem dX1_worth_55 : decode cX1_worth 55 = .ok (.iload_n 1, 1) := DX1_worth (55, .iload_n 1, 1) (List.mem_of_getElem? (i := 17) rfl)
theorem dX1_worth_56 : decode cX1_worth 56 = .ok (.isub, 1) := DX1_worth (56, .isub, 1) (List.mem_of_getElem? (i := 18) rfl)
theorem dX1_worth_57 : decode cX1_worth 57 = .ok (.bipush 6, 2) := DX1_worth (57, .bipush 6, 2) (List.mem_of_getElem? (i := 19) rfl)
theorem dX1_worth_59 : decode cX1_worth 59 = .ok (.isub, 1) := DX1_worth (59, .isub, 1) (List.mem_of_getElem? (i := 20) rfl)
theorem dX1_worth_60 : decode cX1_worth 60 = .ok (.ireturn, 1) := DX1_worth (60, .ireturn, 1) (List.mem_of_getElem? (i := 21) rfl)
theorem dX1_worth_61 : decode cX1_worth 61 = .ok (.iconst 2, 1) := DX1_worth (61, .iconst 2, 1) (List.mem_of_getElem? (i := 22) rfl)
theorem dX1_worth_62 : decode cX1_worth 62 = .ok (.ireturn, 1) := DX1_worth (62, .ireturn, 1) (List.mem_of_getElem? (i := 23) rfl)
theorem dX1_worth_63 : decode cX1_worth 63 = .ok (.iload_n 1, 1) := DX1_worth (63, .iload_n 1, 1) (List.mem_of_getElem? (i := 24) rfl)
theorem dX1_worth_64 : decode cX1_worth 64 = .ok (.ireturn, 1) := DX1_worth (64, .ireturn, 1) (List.mem_of_getElem? (i := 25) rfl)
set_option maxRecDepth 100000 in
theorem DX2_init : ∀ q ∈ ([(0, .aload_n 0, 1), (1, .invokespecial 3, 3), (4, .aload_n 0, 1), (5, .sipush 1024, 3), (8, .newarray .int, 2), (10, .putfield 9, 3), (13, .aload_n 0, 1), (14, .iconst 1, 1), (15, .putfield 15, 3), (18, .return_, 1)] : List (Nat × Instr × Nat)), decode cX2_init q.1 = .ok (q.2.1, q.2.2) := by decide +kernel
theorem dX2_init_0 : decode cX2_init 0 = .ok (.aload_n 0, 1) := DX2_init (0, .aload_n 0, 1) (List.mem_of_getElem? (i := 0) rfl)
theorem dX2_init_1 : decode cX2_init 1 = .ok (.invokespecial 3, 3) := DX2_init (1, .invokespecial 3, 3) (List.mem_of_getElem? (i := 1) rfl)
theorem dX2_init_4 : decode cX2_init 4 = .ok (.aload_n 0, 1) := DX2_init (4, .aload_n 0, 1) (List.mem_of_getElem? (i := 2) rfl)
theorem dX2_init_5 : decode cX2_init 5 = .ok (.sipush 1024, 3) := DX2_init (5, .sipush 1024, 3) (List.mem_of_getElem? (i := 3) rfl)
theorem dX2_init_8 : decode cX2_init 8 = .ok (.newarray .int, 2) := DX2_init (8, .newarray .int, 2) (List.mem_of_getElem? (i := 4) rfl)
theorem dX2_init_10 : decode cX2_init 10 = .ok (.putfield 9, 3) := DX2_init (10, .putfield 9, 3) (List.mem_of_getElem? (i := 5) rfl)
theorem dX2_init_13 : decode cX2_init 13 = .ok (.aload_n 0, 1) := DX2_init (13, .aload_n 0, 1) (List.mem_of_getElem? (i := 6) rfl)
theorem dX2_init_14 : decode cX2_init 14 = .ok (.iconst 1, 1) := DX2_init (14, .iconst 1, 1) (List.mem_of_getElem? (i := 7) rfl)
theorem dX2_init_15 : decode cX2_init 15 = .ok (.putfield 15, 3) := DX2_init (15, .putfield 15, 3) (List.mem_of_getElem? (i := 8) rfl)
theorem dX2_init_18 : decode cX2_init 18 = .ok (.return_, 1) := DX2_init (18, .return_, 1) (List.mem_of_getElem? (i := 9) rfl)
set_option maxRecDepth 100000 in
theorem DX2_scan : ∀ q ∈ ([(0, .aload_n 1, 1), (1, .invokevirtual 19, 3), (4, .istore_n 2, 1), (5, .aload_n 0, 1), (6, .iconst 1, 1), (7, .aload_n 1, 1), (8, .getfield 25, 3), (11, .ishl, 1), (12, .aload_n 0, 1), (13, .getfield 9, 3), (16, .arraylength, 1), (17, .invokestatic 28, 3), (20, .putfield 15, 3), (23, .iconst 0, 1), (24, .istore_n 3, 1), (25, .iload_n 3, 1), (26, .aload_n 0, 1), (27, .getfield 15, 3), (30, .if_icmp .ge 47, 3), (33, .iload_n 3, 1), (34, .aload_n 1, 1), (35, .getfield 34, 3), (38, .ixor, 1), (39, .iload_n 2, 1), (40, .iand, 1), (41, .ifCond .ne 7, 3), (44, .iconst 1, 1), (45, .goto 4, 3), (48, .iconst 0, 1), (49, .istore 4, 2), (51, .aload_n 0, 1), (52, .getfield 9, 3), (55, .iload_n 3, 1), (56, .iload 4, 2), (58, .ifCond .eq 11, 3), (61, .aload_n 1, 1), (62, .iload_n 3, 1), (63, .invokevirtual 37, 3), (66, .goto 4, 3), (69, .iconst (-1), 1), (70, .iastore, 1), (71, .iinc 3 1, 3), (74, .goto (-49), 3), (77, .return_, 1)] : List (Nat × Instr × Nat)), decode cX2_scan q.1 = .ok (q.2.1, q.2.2) := by decide +kernel
theorem dX2_scan_0 : decode cX2_scan 0 = .ok (.aload_n 1, 1) := DX2_scan (0, .aload_n 1, 1) (List.mem_of_getElem? (i := 0) rfl)
theorem dX2_scan_1 : decode cX2_scan 1 = .ok (.invokevirtual 19, 3) := DX2_scan (1, .invokevirtual 19, 3) (List.mem_of_getElem? (i := 1) rfl)
theorem dX2_scan_4 : decode cX2_scan 4 = .ok (.istore_n 2, 1) := DX2_scan (4, .istore_n 2, 1) (List.mem_of_getElem? (i := 2) rfl)
theorem dX2_scan_5 : decode cX2_scan 5 = .ok (.aload_n 0, 1) := DX2_scan (5, .aload_n 0, 1) (List.mem_of_getElem? (i := 3) rfl)
theorem dX2_scan_6 : decode cX2_scan 6 = .ok (.iconst 1, 1) := DX2_scan (6, .iconst 1, 1) (List.mem_of_getElem? (i := 4) rfl)
theorem dX2_scan_7 : decode cX2_scan 7 = .ok (.aload_n 1, 1) := DX2_scan (7, .aload_n 1, 1) (List.mem_of_getElem? (i := 5) rfl)
theorem dX2_scan_8 : decode cX2_scan 8 = .ok (.getfield 25, 3) := DX2_scan (8, .getfield 25, 3) (List.mem_of_getElem? (i := 6) rfl)
theorem dX2_scan_11 : decode cX2_scan 11 = .ok (.ishl, 1) := DX2_scan (11, .ishl, 1) (List.mem_of_getElem? (i := 7) rfl)
theorem dX2_scan_12 : decode cX2_scan 12 = .ok (.aload_n 0, 1) := DX2_scan (12, .aload_n 0, 1) (List.mem_of_getElem? (i := 8) rfl)
theorem dX2_scan_13 : decode cX2_scan 13 = .ok (.getfield 9, 3) := DX2_scan (13, .getfield 9, 3) (List.mem_of_getElem? (i := 9) rfl)
theorem dX2_scan_16 : decode cX2_scan 16 = .ok (.arraylength, 1) := DX2_scan (16, .arraylength, 1) (List.mem_of_getElem? (i := 10) rfl)
theorem dX2_scan_17 : decode cX2_scan 17 = .ok (.invokestatic 28, 3) := DX2_scan (17, .invokestatic 28, 3) (List.mem_of_getElem? (i := 11) rfl)
theorem dX2_scan_20 : decode cX2_scan 20 = .ok (.putfield 15, 3) := DX2_scan (20, .putfield 15, 3) (List.mem_of_getElem? (i := 12) rfl)
theorem dX2_scan_23 : decode cX2_scan 23 = .ok (.iconst 0, 1) := DX2_scan (23, .iconst 0, 1) (List.mem_of_getElem? (i := 13) rfl)
theorem dX2_scan_24 : decode cX2_scan 24 = .ok (.istore_n 3, 1) := DX2_scan (24, .istore_n 3, 1) (List.mem_of_getElem? (i := 14) rfl)
theorem dX2_scan_25 : decode cX2_scan 25 = .ok (.iload_n 3, 1) := DX2_scan (25, .iload_n 3, 1) (List.mem_of_getElem? (i := 15) rfl)
theorem dX2_scan_26 : decode cX2_scan 26 = .ok (.aload_n 0, 1) := DX2_scan (26, .aload_n 0, 1) (List.mem_of_getElem? (i := 16) rfl)
theorem dX2_scan_27 : decode cX2_scan 27 = .ok (.getfield 15, 3) := DX2_scan (27, .getfield 15, 3) (List.mem_of_getElem? (i := 17) rfl)
theorem dX2_scan_30 : decode cX2_scan 30 = .ok (.if_icmp .ge 47, 3) := DX2_scan (30, .if_icmp .ge 47, 3) (List.mem_of_getElem? (i := 18) rfl)
theorem dX2_scan_33 : decode cX2_scan 33 = .ok (.iload_n 3, 1) := DX2_scan (33, .iload_n 3, 1) (List.mem_of_getElem? (i := 19) rfl)
theorem dX2_scan_34 : decode cX2_scan 34 = .ok (.aload_n 1, 1) := DX2_scan (34, .aload_n 1, 1) (List.mem_of_getElem? (i := 20) rfl)
theorem dX2_scan_35 : decode cX2_scan 35 = .ok (.getfield 34, 3) := DX2_scan (35, .getfield 34, 3) (List.mem_of_getElem? (i := 21) rfl)
theorem dX2_scan_38 : decode cX2_scan 38 = .ok (.ixor, 1) := DX2_scan (38, .ixor, 1) (List.mem_of_getElem? (i := 22) rfl)
theorem dX2_scan_39 : decode cX2_scan 39 = .ok (.iload_n 2, 1) := DX2_scan (39, .iload_n 2, 1) (List.mem_of_getElem? (i := 23) rfl)
theorem dX2_scan_40 : decode cX2_scan 40 = .ok (.iand, 1) := DX2_scan (40, .iand, 1) (List.mem_of_getElem? (i := 24) rfl)
theorem dX2_scan_41 : decode cX2_scan 41 = .ok (.ifCond .ne 7, 3) := DX2_scan (41, .ifCond .ne 7, 3) (List.mem_of_getElem? (i := 25) rfl)
theorem dX2_scan_44 : decode cX2_scan 44 = .ok (.iconst 1, 1) := DX2_scan (44, .iconst 1, 1) (List.mem_of_getElem? (i := 26) rfl)
theorem dX2_scan_45 : decode cX2_scan 45 = .ok (.goto 4, 3) := DX2_scan (45, .goto 4, 3) (List.mem_of_getElem? (i := 27) rfl)
theorem dX2_scan_48 : decode cX2_scan 48 = .ok (.iconst 0, 1) := DX2_scan (48, .iconst 0, 1) (List.mem_of_getElem? (i := 28) rfl)
theorem dX2_scan_49 : decode cX2_scan 49 = .ok (.istore 4, 2) := DX2_scan (49, .istore 4, 2) (List.mem_of_getElem? (i := 29) rfl)
theorem dX2_scan_51 : decode cX2_scan 51 = .ok (.aload_n 0, 1) := DX2_scan (51, .aload_n 0, 1) (List.mem_of_getElem? (i := 30) rfl)
theorem dX2_scan_52 : decode cX2_scan 52 = .ok (.getfield 9, 3) := DX2_scan (52, .getfield 9, 3) (List.mem_of_getElem? (i := 31) rfl)
theorem dX2_scan_55 : decode cX2_scan 55 = .ok (.iload_n 3, 1) := DX2_scan (55, .iload_n 3, 1) (List.mem_of_getElem? (i := 32) rfl)
theorem dX2_scan_56 : decode cX2_scan 56 = .ok (.iload 4, 2) := DX2_scan (56, .iload 4, 2) (List.mem_of_getElem? (i := 33) rfl)
theorem dX2_scan_58 : decode cX2_scan 58 = .ok (.ifCond .eq 11, 3) := DX2_scan (58, .ifCond .eq 11, 3) (List.mem_of_getElem? (i := 34) rfl)
theorem dX2_scan_61 : decode cX2_scan 61 = .ok (.aload_n 1, 1) := DX2_scan (61, .aload_n 1, 1) (List.mem_of_getElem? (i := 35) rfl)
theorem dX2_scan_62 : decode cX2_scan 62 = .ok (.iload_n 3, 1) := DX2_scan (62, .iload_n 3, 1) (List.mem_of_getElem? (i := 36) rfl)
theorem dX2_scan_63 : decode cX2_scan 63 = .ok (.invokevirtual 37, 3) := DX2_scan (63, .invokevirtual 37, 3) (List.mem_of_getElem? (i := 37) rfl)
theorem dX2_scan_66 : decode cX2_scan 66 = .ok (.goto 4, 3) := DX2_scan (66, .goto 4, 3) (List.mem_of_getElem? (i := 38) rfl)
theorem dX2_scan_69 : decode cX2_scan 69 = .ok (.iconst (-1), 1) := DX2_scan (69, .iconst (-1), 1) (List.mem_of_getElem? (i := 39) rfl)
theorem dX2_scan_70 : decode cX2_scan 70 = .ok (.iastore, 1) := DX2_scan (70, .iastore, 1) (List.mem_of_getElem? (i := 40) rfl)
theorem dX2_scan_71 : decode cX2_scan 71 = .ok (.iinc 3 1, 3) := DX2_scan (71, .iinc 3 1, 3) (List.mem_of_getElem? (i := 41) rfl)
theorem dX2_scan_74 : decode cX2_scan 74 = .ok (.goto (-49), 3) := DX2_scan (74, .goto (-49), 3) (List.mem_of_getElem? (i := 42) rfl)
theorem dX2_scan_77 : decode cX2_scan 77 = .ok (.return_, 1) := DX2_scan (77, .return_, 1) (List.mem_of_getElem? (i := 43) rfl)
set_option maxRecDepth 100000 in
theorem DX2_howMany : ∀ q ∈ ([(0, .iconst 0, 1), (1, .istore_n 1, 1), (2, .iconst 0, 1), (3, .istore_n 2, 1), (4, .iload_n 2, 1), (5, .aload_n 0, 1), (6, .getfield 15, 3), (9, .if_icmp .ge 21, 3), (12, .aload_n 0, 1), (13, .getfield 9, 3), (16, .iload_n 2, 1), (17, .iaload, 1), (18, .ifCond .ne 6, 3), (21, .iinc 1 1, 3), (24, .iinc 2 1, 3), (27, .goto (-23), 3), (30, .iload_n 1, 1), (31, .ireturn, 1)] : List (Nat × Instr × Nat)), decode cX2_howMany q.1 = .ok (q.2.1, q.2.2) := by decide +kernel
theorem dX2_howMany_0 : decode cX2_howMany 0 = .ok (.iconst 0, 1) := DX2_howMany (0, .iconst 0, 1) (List.mem_of_getElem? (i := 0) rfl)
theorem dX2_howMany_1 : decode cX2_howMany 1 = .ok (.istore_n 1, 1) := DX2_howMany (1, .istore_n 1, 1) (List.mem_of_getElem? (i := 1) rfl)
theorem dX2_howMany_2 : decode cX2_howMany 2 = .ok (.iconst 0, 1) := DX2_howMany (2, .iconst 0, 1) (List.mem_of_getElem? (i := 2) rfl)
theorem dX2_howMany_3 : decode cX2_howMany 3 = .ok (.istore_n 2, 1) := DX2_howMany (3, .istore_n 2, 1) (List.mem_of_getElem? (i := 3) rfl)
theorem dX2_howMany_4 : decode cX2_howMany 4 = .ok (.iload_n 2, 1) := DX2_howMany (4, .iload_n 2, 1) (List.mem_of_getElem? (i := 4) rfl)
theorem dX2_howMany_5 : decode cX2_howMany 5 = .ok (.aload_n 0, 1) := DX2_howMany (5, .aload_n 0, 1) (List.mem_of_getElem? (i := 5) rfl)
theorem dX2_howMany_6 : decode cX2_howMany 6 = .ok (.getfield 15, 3) := DX2_howMany (6, .getfield 15, 3) (List.mem_of_getElem? (i := 6) rfl)
theorem dX2_howMany_9 : decode cX2_howMany 9 = .ok (.if_icmp .ge 21, 3) := DX2_howMany (9, .if_icmp .ge 21, 3) (List.mem_of_getElem? (i := 7) rfl)
theorem dX2_howMany_12 : decode cX2_howMany 12 = .ok (.aload_n 0, 1) := DX2_howMany (12, .aload_n 0, 1) (List.mem_of_getElem? (i := 8) rfl)
theorem dX2_howMany_13 : decode cX2_howMany 13 = .ok (.getfield 9, 3) := DX2_howMany (13, .getfield 9, 3) (List.mem_of_getElem? (i := 9) rfl)
theorem dX2_howMany_16 : decode cX2_howMany 16 = .ok (.iload_n 2, 1) := DX2_howMany (16, .iload_n 2, 1) (List.mem_of_getElem? (i := 10) rfl)
theorem dX2_howMany_17 : decode cX2_howMany 17 = .ok (.iaload, 1) := DX2_howMany (17, .iaload, 1) (List.mem_of_getElem? (i := 11) rfl)
theorem dX2_howMany_18 : decode cX2_howMany 18 = .ok (.ifCond .ne 6, 3) := DX2_howMany (18, .ifCond .ne 6, 3) (List.mem_of_getElem? (i := 12) rfl)
theorem dX2_howMany_21 : decode cX2_howMany 21 = .ok (.iinc 1 1, 3) := DX2_howMany (21, .iinc 1 1, 3) (List.mem_of_getElem? (i := 13) rfl)
theorem dX2_howMany_24 : decode cX2_howMany 24 = .ok (.iinc 2 1, 3) := DX2_howMany (24, .iinc 2 1, 3) (List.mem_of_getElem? (i := 14) rfl)
theorem dX2_howMany_27 : decode cX2_howMany 27 = .ok (.goto (-23), 3) := DX2_howMany (27, .goto (-23), 3) (List.mem_of_getElem? (i := 15) rfl)
theorem dX2_howMany_30 : decode cX2_howMany 30 = .ok (.iload_n 1, 1) := DX2_howMany (30, .iload_n 1, 1) (List.mem_of_getElem? (i := 16) rfl)
theorem dX2_howMany_31 : decode cX2_howMany 31 = .ok (.ireturn, 1) := DX2_howMany (31, .ireturn, 1) (List.mem_of_getElem? (i := 17) rfl)
set_option maxRecDepth 100000 in
theorem DX2_chosen : ∀ q ∈ ([(0, .ldc 40, 2), (2, .istore_n 3, 1), (3, .iconst 0, 1), (4, .istore 4, 2), (6, .iconst 0, 1), (7, .istore 5, 2), (9, .iload 5, 2), (11, .aload_n 0, 1), (12, .getfield 15, 3), (15, .if_icmp .ge 48, 3), (18, .aload_n 0, 1), (19, .getfield 9, 3), (22, .iload 5, 2), (24, .iaload, 1), (25, .ifCond .ne 32, 3), (28, .aload_n 1, 1), (29, .iload 5, 2), (31, .iload_n 2, 1), (32, .invokestatic 41, 3), (35, .istore 6, 2), (37, .iload_n 3, 1), (38, .ldc 40, 2), (40, .if_icmp .eq 10, 3), (43, .iload 6, 2), (45, .iload 4, 2), (47, .if_icmp .ge 10, 3), (50, .iload 6, 2), (52, .istore 4, 2), (54, .iload 5, 2), (56, .istore_n 3, 1), (57, .iinc 5 1, 3), (60, .goto (-51), 3), (63, .iload_n 3, 1), (64, .ireturn, 1)] : List (Nat × Instr × Nat)), decode cX2_chosen q.1 = .ok (q.2.1, q.2.2) := by decide +kernel
theorem dX2_chosen_0 : decode cX2_chosen 0 = .ok (.ldc 40, 2) := DX2_chosen (0, .ldc 40, 2) (List.mem_of_getElem? (i := 0) rfl)
theorem dX2_chosen_2 : decode cX2_chosen 2 = .ok (.istore_n 3, 1) := DX2_chosen (2, .istore_n 3, 1) (List.mem_of_getElem? (i := 1) rfl)
theorem dX2_chosen_3 : decode cX2_chosen 3 = .ok (.iconst 0, 1) := DX2_chosen (3, .iconst 0, 1) (List.mem_of_getElem? (i := 2) rfl)
theorem dX2_chosen_4 : decode cX2_chosen 4 = .ok (.istore 4, 2) := DX2_chosen (4, .istore 4, 2) (List.mem_of_getElem? (i := 3) rfl)
theorem dX2_chosen_6 : decode cX2_chosen 6 = .ok (.iconst 0, 1) := DX2_chosen (6, .iconst 0, 1) (List.mem_of_getElem? (i := 4) rfl)
theorem dX2_chosen_7 : decode cX2_chosen 7 = .ok (.istore 5, 2) := DX2_chosen (7, .istore 5, 2) (List.mem_of_getElem? (i := 5) rfl)
theorem dX2_chosen_9 : decode cX2_chosen 9 = .ok (.iload 5, 2) := DX2_chosen (9, .iload 5, 2) (List.mem_of_getElem? (i := 6) rfl)
theorem dX2_chosen_11 : decode cX2_chosen 11 = .ok (.aload_n 0, 1) := DX2_chosen (11, .aload_n 0, 1) (List.mem_of_getElem? (i := 7) rfl)
theorem dX2_chosen_12 : decode cX2_chosen 12 = .ok (.getfield 15, 3) := DX2_chosen (12, .getfield 15, 3) (List.mem_of_getElem? (i := 8) rfl)
theorem dX2_chosen_15 : decode cX2_chosen 15 = .ok (.if_icmp .ge 48, 3) := DX2_chosen (15, .if_icmp .ge 48, 3) (List.mem_of_getElem? (i := 9) rfl)
theorem dX2_chosen_18 : decode cX2_chosen 18 = .ok (.aload_n 0, 1) := DX2_chosen (18, .aload_n 0, 1) (List.mem_of_getElem? (i := 10) rfl)
theorem dX2_chosen_19 : decode cX2_chosen 19 = .ok (.getfield 9, 3) := DX2_chosen (19, .getfield 9, 3) (List.mem_of_getElem? (i := 11) rfl)
theorem dX2_chosen_22 : decode cX2_chosen 22 = .ok (.iload 5, 2) := DX2_chosen (22, .iload 5, 2) (List.mem_of_getElem? (i := 12) rfl)
theorem dX2_chosen_24 : decode cX2_chosen 24 = .ok (.iaload, 1) := DX2_chosen (24, .iaload, 1) (List.mem_of_getElem? (i := 13) rfl)
theorem dX2_chosen_25 : decode cX2_chosen 25 = .ok (.ifCond .ne 32, 3) := DX2_chosen (25, .ifCond .ne 32, 3) (List.mem_of_getElem? (i := 14) rfl)
theorem dX2_chosen_28 : decode cX2_chosen 28 = .ok (.aload_n 1, 1) := DX2_chosen (28, .aload_n 1, 1) (List.mem_of_getElem? (i := 15) rfl)
theorem dX2_chosen_29 : decode cX2_chosen 29 = .ok (.iload 5, 2) := DX2_chosen (29, .iload 5, 2) (List.mem_of_getElem? (i := 16) rfl)
theorem dX2_chosen_31 : decode cX2_chosen 31 = .ok (.iload_n 2, 1) := DX2_chosen (31, .iload_n 2, 1) (List.mem_of_getElem? (i := 17) rfl)
theorem dX2_chosen_32 : decode cX2_chosen 32 = .ok (.invokestatic 41, 3) := DX2_chosen (32, .invokestatic 41, 3) (List.mem_of_getElem? (i := 18) rfl)
theorem dX2_chosen_35 : decode cX2_chosen 35 = .ok (.istore 6, 2) := DX2_chosen (35, .istore 6, 2) (List.mem_of_getElem? (i := 19) rfl)
theorem dX2_chosen_37 : decode cX2_chosen 37 = .ok (.iload_n 3, 1) := DX2_chosen (37, .iload_n 3, 1) (List.mem_of_getElem? (i := 20) rfl)
theorem dX2_chosen_38 : decode cX2_chosen 38 = .ok (.ldc 40, 2) := DX2_chosen (38, .ldc 40, 2) (List.mem_of_getElem? (i := 21) rfl)
theorem dX2_chosen_40 : decode cX2_chosen 40 = .ok (.if_icmp .eq 10, 3) := DX2_chosen (40, .if_icmp .eq 10, 3) (List.mem_of_getElem? (i := 22) rfl)
theorem dX2_chosen_43 : decode cX2_chosen 43 = .ok (.iload 6, 2) := DX2_chosen (43, .iload 6, 2) (List.mem_of_getElem? (i := 23) rfl)
theorem dX2_chosen_45 : decode cX2_chosen 45 = .ok (.iload 4, 2) := DX2_chosen (45, .iload 4, 2) (List.mem_of_getElem? (i := 24) rfl)
theorem dX2_chosen_47 : decode cX2_chosen 47 = .ok (.if_icmp .ge 10, 3) := DX2_chosen (47, .if_icmp .ge 10, 3) (List.mem_of_getElem? (i := 25) rfl)
theorem dX2_chosen_50 : decode cX2_chosen 50 = .ok (.iload 6, 2) := DX2_chosen (50, .iload 6, 2) (List.mem_of_getElem? (i := 26) rfl)
theorem dX2_chosen_52 : decode cX2_chosen 52 = .ok (.istore 4, 2) := DX2_chosen (52, .istore 4, 2) (List.mem_of_getElem? (i := 27) rfl)
theorem dX2_chosen_54 : decode cX2_chosen 54 = .ok (.iload 5, 2) := DX2_chosen (54, .iload 5, 2) (List.mem_of_getElem? (i := 28) rfl)
theorem dX2_chosen_56 : decode cX2_chosen 56 = .ok (.istore_n 3, 1) := DX2_chosen (56, .istore_n 3, 1) (List.mem_of_getElem? (i := 29) rfl)
theorem dX2_chosen_57 : decode cX2_chosen 57 = .ok (.iinc 5 1, 3) := DX2_chosen (57, .iinc 5 1, 3) (List.mem_of_getElem? (i := 30) rfl)
theorem dX2_chosen_60 : decode cX2_chosen 60 = .ok (.goto (-51), 3) := DX2_chosen (60, .goto (-51), 3) (List.mem_of_getElem? (i := 31) rfl)
theorem dX2_chosen_63 : decode cX2_chosen 63 = .ok (.iload_n 3, 1) := DX2_chosen (63, .iload_n 3, 1) (List.mem_of_getElem? (i := 32) rfl)
theorem dX2_chosen_64 : decode cX2_chosen 64 = .ok (.ireturn, 1) := DX2_chosen (64, .ireturn, 1) (List.mem_of_getElem? (i := 33) rfl)
set_option maxRecDepth 100000 in
theorem DX2_cost : ∀ q ∈ ([(0, .iload_n 2, 1), (1, .tableswitch 54 0 2 #[27, 37, 48], 27), (28, .iload_n 1, 1), (29, .aload_n 0, 1), (30, .getfield 34, 3), (33, .ixor, 1), (34, .invokestatic 45, 3), (37, .ireturn, 1), (38, .aload_n 0, 1), (39, .iload_n 1, 1), (40, .aload_n 0, 1), (41, .getfield 34, 3), (44, .ixor, 1), (45, .invokestatic 50, 3), (48, .ireturn, 1), (49, .iload_n 1, 1), (50, .invokestatic 45, 3), (53, .ineg, 1), (54, .ireturn, 1), (55, .iload_n 1, 1), (56, .invokestatic 45, 3), (59, .ireturn, 1)] : List (Nat × Instr × Nat)), decode cX2_cost q.1 = .ok (q.2.1, q.2.2) := by decide +kernel
theorem dX2_cost_0 : decode cX2_cost 0 = .ok (.iload_n 2, 1) := DX2_cost (0, .iload_n 2, 1) (List.mem_of_getElem? (i := 0) rfl)
theorem dX2_cost_1 : decode cX2_cost 1 = .ok (.tableswitch 54 0 2 #[27, 37, 48], 27) := DX2_cost (1, .tableswitch 54 0 2 #[27, 37, 48], 27) (List.mem_of_getElem? (i := 1) rfl)
theorem dX2_cost_28 : decode cX2_cost 28 = .ok (.iload_n 1, 1) := DX2_cost (28, .iload_n 1, 1) (List.mem_of_getElem? (i := 2) rfl)
theorem dX2_cost_29 : decode cX2_cost 29 = .ok (.aload_n 0, 1) := DX2_cost (29, .aload_n 0, 1) (List.mem_of_getElem? (i := 3) rfl)
theorem dX2_cost_30 : decode cX2_cost 30 = .ok (.getfield 34, 3) := DX2_cost (30, .getfield 34, 3) (List.mem_of_getElem? (i := 4) rfl)
theorem dX2_cost_33 : decode cX2_cost 33 = .ok (.ixor, 1) := DX2_cost (33, .ixor, 1) (List.mem_of_getElem? (i := 5) rfl)
theorem dX2_cost_34 : decode cX2_cost 34 = .ok (.invokestatic 45, 3) := DX2_cost (34, .invokestatic 45, 3) (List.mem_of_getElem? (i := 6) rfl)
theorem dX2_cost_37 : decode cX2_cost 37 = .ok (.ireturn, 1) := DX2_cost (37, .ireturn, 1) (List.mem_of_getElem? (i := 7) rfl)
theorem dX2_cost_38 : decode cX2_cost 38 = .ok (.aload_n 0, 1) := DX2_cost (38, .aload_n 0, 1) (List.mem_of_getElem? (i := 8) rfl)
theorem dX2_cost_39 : decode cX2_cost 39 = .ok (.iload_n 1, 1) := DX2_cost (39, .iload_n 1, 1) (List.mem_of_getElem? (i := 9) rfl)
theorem dX2_cost_40 : decode cX2_cost 40 = .ok (.aload_n 0, 1) := DX2_cost (40, .aload_n 0, 1) (List.mem_of_getElem? (i := 10) rfl)
theorem dX2_cost_41 : decode cX2_cost 41 = .ok (.getfield 34, 3) := DX2_cost (41, .getfield 34, 3) (List.mem_of_getElem? (i := 11) rfl)
theorem dX2_cost_44 : decode cX2_cost 44 = .ok (.ixor, 1) := DX2_cost (44, .ixor, 1) (List.mem_of_getElem? (i := 12) rfl)
theorem dX2_cost_45 : decode cX2_cost 45 = .ok (.invokestatic 50, 3) := DX2_cost (45, .invokestatic 50, 3) (List.mem_of_getElem? (i := 13) rfl)
theorem dX2_cost_48 : decode cX2_cost 48 = .ok (.ireturn, 1) := DX2_cost (48, .ireturn, 1) (List.mem_of_getElem? (i := 14) rfl)
theorem dX2_cost_49 : decode cX2_cost 49 = .ok (.iload_n 1, 1) := DX2_cost (49, .iload_n 1, 1) (List.mem_of_getElem? (i := 15) rfl)
theorem dX2_cost_50 : decode cX2_cost 50 = .ok (.invokestatic 45, 3) := DX2_cost (50, .invokestatic 45, 3) (List.mem_of_getElem? (i := 16) rfl)
theorem dX2_cost_53 : decode cX2_cost 53 = .ok (.ineg, 1) := DX2_cost (53, .ineg, 1) (List.mem_of_getElem? (i := 17) rfl)
theorem dX2_cost_54 : decode cX2_cost 54 = .ok (.ireturn, 1) := DX2_cost (54, .ireturn, 1) (List.mem_of_getElem? (i := 18) rfl)
theorem dX2_cost_55 : decode cX2_cost 55 = .ok (.iload_n 1, 1) := DX2_cost (55, .iload_n 1, 1) (List.mem_of_getElem? (i := 19) rfl)
theorem dX2_cost_56 : decode cX2_cost 56 = .ok (.invokestatic 45, 3) := DX2_cost (56, .invokestatic 45, 3) (List.mem_of_getElem? (i := 20) rfl)
theorem dX2_cost_59 : decode cX2_cost 59 = .ok (.ireturn, 1) := DX2_cost (59, .ireturn, 1) (List.mem_of_getElem? (i := 21) rfl)
set_option maxRecDepth 100000 in
theorem DX2_priceOf : ∀ q ∈ ([(0, .iconst 0, 1), (1, .istore_n 2, 1), (2, .iconst 0, 1), (3, .istore_n 3, 1), (4, .iload_n 3, 1), (5, .aload_n 0, 1), (6, .getfield 25, 3), (9, .if_icmp .ge 26, 3), (12, .iload_n 1, 1), (13, .iload_n 3, 1), (14, .ishr, 1), (15, .iconst 1, 1), (16, .iand, 1), (17, .iconst 1, 1), (18, .if_icmp .ne 11, 3), (21, .iload_n 2, 1), (22, .aload_n 0, 1), (23, .iload_n 3, 1), (24, .invokevirtual 54, 3), (27, .iadd, 1), (28, .istore_n 2, 1), (29, .iinc 3 1, 3), (32, .goto (-28), 3), (35, .iload_n 2, 1), (36, .ireturn, 1)] : List (Nat × Instr × Nat)), decode cX2_priceOf q.1 = .ok (q.2.1, q.2.2) := by decide +kernel
theorem dX2_priceOf_0 : decode cX2_priceOf 0 = .ok (.iconst 0, 1) := DX2_priceOf (0, .iconst 0, 1) (List.mem_of_getElem? (i := 0) rfl)
theorem dX2_priceOf_1 : decode cX2_priceOf 1 = .ok (.istore_n 2, 1) := DX2_priceOf (1, .istore_n 2, 1) (List.mem_of_getElem? (i := 1) rfl)
theorem dX2_priceOf_2 : decode cX2_priceOf 2 = .ok (.iconst 0, 1) := DX2_priceOf (2, .iconst 0, 1) (List.mem_of_getElem? (i := 2) rfl)
theorem dX2_priceOf_3 : decode cX2_priceOf 3 = .ok (.istore_n 3, 1) := DX2_priceOf (3, .istore_n 3, 1) (List.mem_of_getElem? (i := 3) rfl)
theorem dX2_priceOf_4 : decode cX2_priceOf 4 = .ok (.iload_n 3, 1) := DX2_priceOf (4, .iload_n 3, 1) (List.mem_of_getElem? (i := 4) rfl)
theorem dX2_priceOf_5 : decode cX2_priceOf 5 = .ok (.aload_n 0, 1) := DX2_priceOf (5, .aload_n 0, 1) (List.mem_of_getElem? (i := 5) rfl)
theorem dX2_priceOf_6 : decode cX2_priceOf 6 = .ok (.getfield 25, 3) := DX2_priceOf (6, .getfield 25, 3) (List.mem_of_getElem? (i := 6) rfl)
theorem dX2_priceOf_9 : decode cX2_priceOf 9 = .ok (.if_icmp .ge 26, 3) := DX2_priceOf (9, .if_icmp .ge 26, 3) (List.mem_of_getElem? (i := 7) rfl)
theorem dX2_priceOf_12 : decode cX2_priceOf 12 = .ok (.iload_n 1, 1) := DX2_priceOf (12, .iload_n 1, 1) (List.mem_of_getElem? (i := 8) rfl)
theorem dX2_priceOf_13 : decode cX2_priceOf 13 = .ok (.iload_n 3, 1) := DX2_priceOf (13, .iload_n 3, 1) (List.mem_of_getElem? (i := 9) rfl)
theorem dX2_priceOf_14 : decode cX2_priceOf 14 = .ok (.ishr, 1) := DX2_priceOf (14, .ishr, 1) (List.mem_of_getElem? (i := 10) rfl)
theorem dX2_priceOf_15 : decode cX2_priceOf 15 = .ok (.iconst 1, 1) := DX2_priceOf (15, .iconst 1, 1) (List.mem_of_getElem? (i := 11) rfl)
theorem dX2_priceOf_16 : decode cX2_priceOf 16 = .ok (.iand, 1) := DX2_priceOf (16, .iand, 1) (List.mem_of_getElem? (i := 12) rfl)
theorem dX2_priceOf_17 : decode cX2_priceOf 17 = .ok (.iconst 1, 1) := DX2_priceOf (17, .iconst 1, 1) (List.mem_of_getElem? (i := 13) rfl)
theorem dX2_priceOf_18 : decode cX2_priceOf 18 = .ok (.if_icmp .ne 11, 3) := DX2_priceOf (18, .if_icmp .ne 11, 3) (List.mem_of_getElem? (i := 14) rfl)
theorem dX2_priceOf_21 : decode cX2_priceOf 21 = .ok (.iload_n 2, 1) := DX2_priceOf (21, .iload_n 2, 1) (List.mem_of_getElem? (i := 15) rfl)
theorem dX2_priceOf_22 : decode cX2_priceOf 22 = .ok (.aload_n 0, 1) := DX2_priceOf (22, .aload_n 0, 1) (List.mem_of_getElem? (i := 16) rfl)
theorem dX2_priceOf_23 : decode cX2_priceOf 23 = .ok (.iload_n 3, 1) := DX2_priceOf (23, .iload_n 3, 1) (List.mem_of_getElem? (i := 17) rfl)
theorem dX2_priceOf_24 : decode cX2_priceOf 24 = .ok (.invokevirtual 54, 3) := DX2_priceOf (24, .invokevirtual 54, 3) (List.mem_of_getElem? (i := 18) rfl)
theorem dX2_priceOf_27 : decode cX2_priceOf 27 = .ok (.iadd, 1) := DX2_priceOf (27, .iadd, 1) (List.mem_of_getElem? (i := 19) rfl)
theorem dX2_priceOf_28 : decode cX2_priceOf 28 = .ok (.istore_n 2, 1) := DX2_priceOf (28, .istore_n 2, 1) (List.mem_of_getElem? (i := 20) rfl)
theorem dX2_priceOf_29 : decode cX2_priceOf 29 = .ok (.iinc 3 1, 3) := DX2_priceOf (29, .iinc 3 1, 3) (List.mem_of_getElem? (i := 21) rfl)
theorem dX2_priceOf_32 : decode cX2_priceOf 32 = .ok (.goto (-28), 3) := DX2_priceOf (32, .goto (-28), 3) (List.mem_of_getElem? (i := 22) rfl)
theorem dX2_priceOf_35 : decode cX2_priceOf 35 = .ok (.iload_n 2, 1) := DX2_priceOf (35, .iload_n 2, 1) (List.mem_of_getElem? (i := 23) rfl)
theorem dX2_priceOf_36 : decode cX2_priceOf 36 = .ok (.ireturn, 1) := DX2_priceOf (36, .ireturn, 1) (List.mem_of_getElem? (i := 24) rfl)
set_option maxRecDepth 100000 in
theorem DX2_free : ∀ q ∈ ([(0, .iconst 0, 1), (1, .istore_n 1, 1), (2, .iconst 0, 1), (3, .istore_n 2, 1), (4, .iconst 0, 1), (5, .istore_n 3, 1), (6, .iload_n 3, 1), (7, .aload_n 0, 1), (8, .getfield 15, 3), (11, .if_icmp .ge 35, 3), (14, .aload_n 0, 1), (15, .getfield 9, 3), (18, .iload_n 3, 1), (19, .iaload, 1), (20, .ifCond .ne 20, 3), (23, .iload_n 1, 1), (24, .iload_n 3, 1), (25, .ior, 1), (26, .istore_n 1, 1), (27, .iload_n 2, 1), (28, .aload_n 0, 1), (29, .getfield 15, 3), (32, .iconst 1, 1), (33, .isub, 1), (34, .iload_n 3, 1), (35, .iconst (-1), 1), (36, .ixor, 1), (37, .iand, 1), (38, .ior, 1), (39, .istore_n 2, 1), (40, .iinc 3 1, 3), (43, .goto (-37), 3), (46, .iload_n 1, 1), (47, .iload_n 2, 1), (48, .iand, 1), (49, .ireturn, 1)] : List (Nat × Instr × Nat)), decode cX2_free q.1 = .ok (q.2.1, q.2.2) := by decide +kernel
theorem dX2_free_0 : decode cX2_free 0 = .ok (.iconst 0, 1) := DX2_free (0, .iconst 0, 1) (List.mem_of_getElem? (i := 0) rfl)
theorem dX2_free_1 : decode cX2_free 1 = .ok (.istore_n 1, 1) := DX2_free (1, .istore_n 1, 1) (List.mem_of_getElem? (i := 1) rfl)
theorem dX2_free_2 : decode cX2_free 2 = .ok (.iconst 0, 1) := DX2_free (2, .iconst 0, 1) (List.mem_of_getElem? (i := 2) rfl)
theorem dX2_free_3 : decode cX2_free 3 = .ok (.istore_n 2, 1) := DX2_free (3, .istore_n 2, 1) (List.mem_of_getElem? (i := 3) rfl)
theorem dX2_free_4 : decode cX2_free 4 = .ok (.iconst 0, 1) := DX2_free (4, .iconst 0, 1) (List.mem_of_getElem? (i := 4) rfl)
theorem dX2_free_5 : decode cX2_free 5 = .ok (.istore_n 3, 1) := DX2_free (5, .istore_n 3, 1) (List.mem_of_getElem? (i := 5) rfl)
theorem dX2_free_6 : decode cX2_free 6 = .ok (.iload_n 3, 1) := DX2_free (6, .iload_n 3, 1) (List.mem_of_getElem? (i := 6) rfl)
theorem dX2_free_7 : decode cX2_free 7 = .ok (.aload_n 0, 1) := DX2_free (7, .aload_n 0, 1) (List.mem_of_getElem? (i := 7) rfl)
theorem dX2_free_8 : decode cX2_free 8 = .ok (.getfield 15, 3) := DX2_free (8, .getfield 15, 3) (List.mem_of_getElem? (i := 8) rfl)
theorem dX2_free_11 : decode cX2_free 11 = .ok (.if_icmp .ge 35, 3) := DX2_free (11, .if_icmp .ge 35, 3) (List.mem_of_getElem? (i := 9) rfl)
theorem dX2_free_14 : decode cX2_free 14 = .ok (.aload_n 0, 1) := DX2_free (14, .aload_n 0, 1) (List.mem_of_getElem? (i := 10) rfl)
theorem dX2_free_15 : decode cX2_free 15 = .ok (.getfield 9, 3) := DX2_free (15, .getfield 9, 3) (List.mem_of_getElem? (i := 11) rfl)
theorem dX2_free_18 : decode cX2_free 18 = .ok (.iload_n 3, 1) := DX2_free (18, .iload_n 3, 1) (List.mem_of_getElem? (i := 12) rfl)
theorem dX2_free_19 : decode cX2_free 19 = .ok (.iaload, 1) := DX2_free (19, .iaload, 1) (List.mem_of_getElem? (i := 13) rfl)
theorem dX2_free_20 : decode cX2_free 20 = .ok (.ifCond .ne 20, 3) := DX2_free (20, .ifCond .ne 20, 3) (List.mem_of_getElem? (i := 14) rfl)
theorem dX2_free_23 : decode cX2_free 23 = .ok (.iload_n 1, 1) := DX2_free (23, .iload_n 1, 1) (List.mem_of_getElem? (i := 15) rfl)
theorem dX2_free_24 : decode cX2_free 24 = .ok (.iload_n 3, 1) := DX2_free (24, .iload_n 3, 1) (List.mem_of_getElem? (i := 16) rfl)
theorem dX2_free_25 : decode cX2_free 25 = .ok (.ior, 1) := DX2_free (25, .ior, 1) (List.mem_of_getElem? (i := 17) rfl)
theorem dX2_free_26 : decode cX2_free 26 = .ok (.istore_n 1, 1) := DX2_free (26, .istore_n 1, 1) (List.mem_of_getElem? (i := 18) rfl)
theorem dX2_free_27 : decode cX2_free 27 = .ok (.iload_n 2, 1) := DX2_free (27, .iload_n 2, 1) (List.mem_of_getElem? (i := 19) rfl)
theorem dX2_free_28 : decode cX2_free 28 = .ok (.aload_n 0, 1) := DX2_free (28, .aload_n 0, 1) (List.mem_of_getElem? (i := 20) rfl)
theorem dX2_free_29 : decode cX2_free 29 = .ok (.getfield 15, 3) := DX2_free (29, .getfield 15, 3) (List.mem_of_getElem? (i := 21) rfl)
theorem dX2_free_32 : decode cX2_free 32 = .ok (.iconst 1, 1) := DX2_free (32, .iconst 1, 1) (List.mem_of_getElem? (i := 22) rfl)
theorem dX2_free_33 : decode cX2_free 33 = .ok (.isub, 1) := DX2_free (33, .isub, 1) (List.mem_of_getElem? (i := 23) rfl)
theorem dX2_free_34 : decode cX2_free 34 = .ok (.iload_n 3, 1) := DX2_free (34, .iload_n 3, 1) (List.mem_of_getElem? (i := 24) rfl)
theorem dX2_free_35 : decode cX2_free 35 = .ok (.iconst (-1), 1) := DX2_free (35, .iconst (-1), 1) (List.mem_of_getElem? (i := 25) rfl)
theorem dX2_free_36 : decode cX2_free 36 = .ok (.ixor, 1) := DX2_free (36, .ixor, 1) (List.mem_of_getElem? (i := 26) rfl)
theorem dX2_free_37 : decode cX2_free 37 = .ok (.iand, 1) := DX2_free (37, .iand, 1) (List.mem_of_getElem? (i := 27) rfl)
theorem dX2_free_38 : decode cX2_free 38 = .ok (.ior, 1) := DX2_free (38, .ior, 1) (List.mem_of_getElem? (i := 28) rfl)
theorem dX2_free_39 : decode cX2_free 39 = .ok (.istore_n 2, 1) := DX2_free (39, .istore_n 2, 1) (List.mem_of_getElem? (i := 29) rfl)
theorem dX2_free_40 : decode cX2_free 40 = .ok (.iinc 3 1, 3) := DX2_free (40, .iinc 3 1, 3) (List.mem_of_getElem? (i := 30) rfl)
theorem dX2_free_43 : decode cX2_free 43 = .ok (.goto (-37), 3) := DX2_free (43, .goto (-37), 3) (List.mem_of_getElem? (i := 31) rfl)
theorem dX2_free_46 : decode cX2_free 46 = .ok (.iload_n 1, 1) := DX2_free (46, .iload_n 1, 1) (List.mem_of_getElem? (i := 32) rfl)
theorem dX2_free_47 : decode cX2_free 47 = .ok (.iload_n 2, 1) := DX2_free (47, .iload_n 2, 1) (List.mem_of_getElem? (i := 33) rfl)
theorem dX2_free_48 : decode cX2_free 48 = .ok (.iand, 1) := DX2_free (48, .iand, 1) (List.mem_of_getElem? (i := 34) rfl)
theorem dX2_free_49 : decode cX2_free 49 = .ok (.ireturn, 1) := DX2_free (49, .ireturn, 1) (List.mem_of_getElem? (i := 35) rfl)
set_option maxRecDepth 100000 in
theorem DX2_nearest : ∀ q ∈ ([(0, .ldc 40, 2), (2, .istore_n 2, 1), (3, .iconst 0, 1), (4, .istore_n 3, 1), (5, .iload_n 3, 1), (6, .aload_n 0, 1), (7, .getfield 15, 3), (10, .if_icmp .ge 46, 3), (13, .iload_n 3, 1), (14, .iload_n 1, 1), (15, .ixor, 1), (16, .invokestatic 45, 3), (19, .istore 4, 2), (21, .aload_n 0, 1), (22, .getfield 9, 3), (25, .iload_n 3, 1), (26, .iaload, 1), (27, .ifCond .ne 23, 3), (30, .iload 4, 2), (32, .ifCond .le 18, 3), (35, .iload_n 2, 1), (36, .ldc 40, 2), (38, .if_icmp .eq 9, 3), (41, .iload 4, 2), (43, .iload_n 2, 1), (44, .if_icmp .ge 6, 3), (47, .iload 4, 2), (49, .istore_n 2, 1), (50, .iinc 3 1, 3), (53, .goto (-48), 3), (56, .iload_n 2, 1), (57, .ireturn, 1)] : List (Nat × Instr × Nat)), decode cX2_nearest q.1 = .ok (q.2.1, q.2.2) := by decide +kernel
theorem dX2_nearest_0 : decode cX2_nearest 0 = .ok (.ldc 40, 2) := DX2_nearest (0, .ldc 40, 2) (List.mem_of_getElem? (i := 0) rfl)
theorem dX2_nearest_2 : decode cX2_nearest 2 = .ok (.istore_n 2, 1) := DX2_nearest (2, .istore_n 2, 1) (List.mem_of_getElem? (i := 1) rfl)
theorem dX2_nearest_3 : decode cX2_nearest 3 = .ok (.iconst 0, 1) := DX2_nearest (3, .iconst 0, 1) (List.mem_of_getElem? (i := 2) rfl)
theorem dX2_nearest_4 : decode cX2_nearest 4 = .ok (.istore_n 3, 1) := DX2_nearest (4, .istore_n 3, 1) (List.mem_of_getElem? (i := 3) rfl)
theorem dX2_nearest_5 : decode cX2_nearest 5 = .ok (.iload_n 3, 1) := DX2_nearest (5, .iload_n 3, 1) (List.mem_of_getElem? (i := 4) rfl)
theorem dX2_nearest_6 : decode cX2_nearest 6 = .ok (.aload_n 0, 1) := DX2_nearest (6, .aload_n 0, 1) (List.mem_of_getElem? (i := 5) rfl)
theorem dX2_nearest_7 : decode cX2_nearest 7 = .ok (.getfield 15, 3) := DX2_nearest (7, .getfield 15, 3) (List.mem_of_getElem? (i := 6) rfl)
theorem dX2_nearest_10 : decode cX2_nearest 10 = .ok (.if_icmp .ge 46, 3) := DX2_nearest (10, .if_icmp .ge 46, 3) (List.mem_of_getElem? (i := 7) rfl)
theorem dX2_nearest_13 : decode cX2_nearest 13 = .ok (.iload_n 3, 1) := DX2_nearest (13, .iload_n 3, 1) (List.mem_of_getElem? (i := 8) rfl)
theorem dX2_nearest_14 : decode cX2_nearest 14 = .ok (.iload_n 1, 1) := DX2_nearest (14, .iload_n 1, 1) (List.mem_of_getElem? (i := 9) rfl)
theorem dX2_nearest_15 : decode cX2_nearest 15 = .ok (.ixor, 1) := DX2_nearest (15, .ixor, 1) (List.mem_of_getElem? (i := 10) rfl)
theorem dX2_nearest_16 : decode cX2_nearest 16 = .ok (.invokestatic 45, 3) := DX2_nearest (16, .invokestatic 45, 3) (List.mem_of_getElem? (i := 11) rfl)
theorem dX2_nearest_19 : decode cX2_nearest 19 = .ok (.istore 4, 2) := DX2_nearest (19, .istore 4, 2) (List.mem_of_getElem? (i := 12) rfl)
theorem dX2_nearest_21 : decode cX2_nearest 21 = .ok (.aload_n 0, 1) := DX2_nearest (21, .aload_n 0, 1) (List.mem_of_getElem? (i := 13) rfl)
theorem dX2_nearest_22 : decode cX2_nearest 22 = .ok (.getfield 9, 3) := DX2_nearest (22, .getfield 9, 3) (List.mem_of_getElem? (i := 14) rfl)
theorem dX2_nearest_25 : decode cX2_nearest 25 = .ok (.iload_n 3, 1) := DX2_nearest (25, .iload_n 3, 1) (List.mem_of_getElem? (i := 15) rfl)
theorem dX2_nearest_26 : decode cX2_nearest 26 = .ok (.iaload, 1) := DX2_nearest (26, .iaload, 1) (List.mem_of_getElem? (i := 16) rfl)
theorem dX2_nearest_27 : decode cX2_nearest 27 = .ok (.ifCond .ne 23, 3) := DX2_nearest (27, .ifCond .ne 23, 3) (List.mem_of_getElem? (i := 17) rfl)
theorem dX2_nearest_30 : decode cX2_nearest 30 = .ok (.iload 4, 2) := DX2_nearest (30, .iload 4, 2) (List.mem_of_getElem? (i := 18) rfl)
theorem dX2_nearest_32 : decode cX2_nearest 32 = .ok (.ifCond .le 18, 3) := DX2_nearest (32, .ifCond .le 18, 3) (List.mem_of_getElem? (i := 19) rfl)
theorem dX2_nearest_35 : decode cX2_nearest 35 = .ok (.iload_n 2, 1) := DX2_nearest (35, .iload_n 2, 1) (List.mem_of_getElem? (i := 20) rfl)
theorem dX2_nearest_36 : decode cX2_nearest 36 = .ok (.ldc 40, 2) := DX2_nearest (36, .ldc 40, 2) (List.mem_of_getElem? (i := 21) rfl)
theorem dX2_nearest_38 : decode cX2_nearest 38 = .ok (.if_icmp .eq 9, 3) := DX2_nearest (38, .if_icmp .eq 9, 3) (List.mem_of_getElem? (i := 22) rfl)
theorem dX2_nearest_41 : decode cX2_nearest 41 = .ok (.iload 4, 2) := DX2_nearest (41, .iload 4, 2) (List.mem_of_getElem? (i := 23) rfl)
theorem dX2_nearest_43 : decode cX2_nearest 43 = .ok (.iload_n 2, 1) := DX2_nearest (43, .iload_n 2, 1) (List.mem_of_getElem? (i := 24) rfl)
theorem dX2_nearest_44 : decode cX2_nearest 44 = .ok (.if_icmp .ge 6, 3) := DX2_nearest (44, .if_icmp .ge 6, 3) (List.mem_of_getElem? (i := 25) rfl)
theorem dX2_nearest_47 : decode cX2_nearest 47 = .ok (.iload 4, 2) := DX2_nearest (47, .iload 4, 2) (List.mem_of_getElem? (i := 26) rfl)
theorem dX2_nearest_49 : decode cX2_nearest 49 = .ok (.istore_n 2, 1) := DX2_nearest (49, .istore_n 2, 1) (List.mem_of_getElem? (i := 27) rfl)
theorem dX2_nearest_50 : decode cX2_nearest 50 = .ok (.iinc 3 1, 3) := DX2_nearest (50, .iinc 3 1, 3) (List.mem_of_getElem? (i := 28) rfl)
theorem dX2_nearest_53 : decode cX2_nearest 53 = .ok (.goto (-48), 3) := DX2_nearest (53, .goto (-48), 3) (List.mem_of_getElem? (i := 29) rfl)
theorem dX2_nearest_56 : decode cX2_nearest 56 = .ok (.iload_n 2, 1) := DX2_nearest (56, .iload_n 2, 1) (List.mem_of_getElem? (i := 30) rfl)
theorem dX2_nearest_57 : decode cX2_nearest 57 = .ok (.ireturn, 1) := DX2_nearest (57, .ireturn, 1) (List.mem_of_getElem? (i := 31) rfl)
set_option maxRecDepth 100000 in
theorem DX2_howManyTurned : ∀ q ∈ ([(0, .iconst 1, 1), (1, .iload_n 2, 1), (2, .ishl, 1), (3, .iconst 1, 1), (4, .iload_n 3, 1), (5, .ishl, 1), (6, .ior, 1), (7, .iconst (-1), 1), (8, .ixor, 1), (9, .istore 4, 2), (11, .aload_n 1, 1), (12, .getfield 57, 3), (15, .iload_n 2, 1), (16, .iaload, 1), (17, .iconst 1, 1), (18, .iload_n 3, 1), (19, .ishl, 1), (20, .ixor, 1), (21, .istore 5, 2), (23, .aload_n 1, 1), (24, .getfield 57, 3), (27, .iload_n 3, 1), (28, .iaload, 1), (29, .iconst 1, 1), (30, .iload_n 2, 1), (31, .ishl, 1), (32, .ixor, 1), (33, .istore 6, 2), (35, .iconst 0, 1), (36, .istore 7, 2), (38, .iconst 0, 1), (39, .istore 8, 2), (41, .iload 8, 2), (43, .aload_n 0, 1), (44, .getfield 15, 3), (47, .if_icmp .ge 64, 3), (50, .aload_n 0, 1), (51, .getfield 9, 3), (54, .iload 8, 2), (56, .iaload, 1), (57, .iconst (-1), 1), (58, .if_icmp .eq 47, 3), (61, .aload_n 0, 1), (62, .getfield 9, 3), (65, .iload 8, 2), (67, .iaload, 1), (68, .iload 4, 2), (70, .iand, 1), (71, .ifCond .ne 34, 3), (74, .iload 5, 2), (76, .iload 8, 2), (78, .invokestatic 60, 3), (81, .aload_n 1, 1), (82, .getfield 63, 3), (85, .if_icmp .gt 20, 3), (88, .iload 6, 2), (90, .iload 8, 2), (92, .invokestatic 60, 3), (95, .aload_n 1, 1), (96, .getfield 63, 3), (99, .if_icmp .gt 6, 3), (102, .iinc 7 1, 3), (105, .iinc 8 1, 3), (108, .goto (-67), 3), (111, .iload 7, 2), (113, .ireturn, 1)] : List (Nat × Instr × Nat)), decode cX2_howManyTurned q.1 = .ok (q.2.1, q.2.2) := by decide +kernel
theorem dX2_howManyTurned_0 : decode cX2_howManyTurned 0 = .ok (.iconst 1, 1) := DX2_howManyTurned (0, .iconst 1, 1) (List.mem_of_getElem? (i := 0) rfl)
theorem dX2_howManyTurned_1 : decode cX2_howManyTurned 1 = .ok (.iload_n 2, 1) := DX2_howManyTurned (1, .iload_n 2, 1) (List.mem_of_getElem? (i := 1) rfl)
theorem dX2_howManyTurned_2 : decode cX2_howManyTurned 2 = .ok (.ishl, 1) := DX2_howManyTurned (2, .ishl, 1) (List.mem_of_getElem? (i := 2) rfl)
theorem dX2_howManyTurned_3 : decode cX2_howManyTurned 3 = .ok (.iconst 1, 1) := DX2_howManyTurned (3, .iconst 1, 1) (List.mem_of_getElem? (i := 3) rfl)
theorem dX2_howManyTurned_4 : decode cX2_howManyTurned 4 = .ok (.iload_n 3, 1) := DX2_howManyTurned (4, .iload_n 3, 1) (List.mem_of_getElem? (i := 4) rfl)
theorem dX2_howManyTurned_5 : decode cX2_howManyTurned 5 = .ok (.ishl, 1) := DX2_howManyTurned (5, .ishl, 1) (List.mem_of_getElem? (i := 5) rfl)
theorem dX2_howManyTurned_6 : decode cX2_howManyTurned 6 = .ok (.ior, 1) := DX2_howManyTurned (6, .ior, 1) (List.mem_of_getElem? (i := 6) rfl)
theorem dX2_howManyTurned_7 : decode cX2_howManyTurned 7 = .ok (.iconst (-1), 1) := DX2_howManyTurned (7, .iconst (-1), 1) (List.mem_of_getElem? (i := 7) rfl)
theorem dX2_howManyTurned_8 : decode cX2_howManyTurned 8 = .ok (.ixor, 1) := DX2_howManyTurned (8, .ixor, 1) (List.mem_of_getElem? (i := 8) rfl)
theorem dX2_howManyTurned_9 : decode cX2_howManyTurned 9 = .ok (.istore 4, 2) := DX2_howManyTurned (9, .istore 4, 2) (List.mem_of_getElem? (i := 9) rfl)
theorem dX2_howManyTurned_11 : decode cX2_howManyTurned 11 = .ok (.aload_n 1, 1) := DX2_howManyTurned (11, .aload_n 1, 1) (List.mem_of_getElem? (i := 10) rfl)
theorem dX2_howManyTurned_12 : decode cX2_howManyTurned 12 = .ok (.getfield 57, 3) := DX2_howManyTurned (12, .getfield 57, 3) (List.mem_of_getElem? (i := 11) rfl)
theorem dX2_howManyTurned_15 : decode cX2_howManyTurned 15 = .ok (.iload_n 2, 1) := DX2_howManyTurned (15, .iload_n 2, 1) (List.mem_of_getElem? (i := 12) rfl)
theorem dX2_howManyTurned_16 : decode cX2_howManyTurned 16 = .ok (.iaload, 1) := DX2_howManyTurned (16, .iaload, 1) (List.mem_of_getElem? (i := 13) rfl)
theorem dX2_howManyTurned_17 : decode cX2_howManyTurned 17 = .ok (.iconst 1, 1) := DX2_howManyTurned (17, .iconst 1, 1) (List.mem_of_getElem? (i := 14) rfl)
theorem dX2_howManyTurned_18 : decode cX2_howManyTurned 18 = .ok (.iload_n 3, 1) := DX2_howManyTurned (18, .iload_n 3, 1) (List.mem_of_getElem? (i := 15) rfl)
theorem dX2_howManyTurned_19 : decode cX2_howManyTurned 19 = .ok (.ishl, 1) := DX2_howManyTurned (19, .ishl, 1) (List.mem_of_getElem? (i := 16) rfl)
theorem dX2_howManyTurned_20 : decode cX2_howManyTurned 20 = .ok (.ixor, 1) := DX2_howManyTurned (20, .ixor, 1) (List.mem_of_getElem? (i := 17) rfl)
theorem dX2_howManyTurned_21 : decode cX2_howManyTurned 21 = .ok (.istore 5, 2) := DX2_howManyTurned (21, .istore 5, 2) (List.mem_of_getElem? (i := 18) rfl)
theorem dX2_howManyTurned_23 : decode cX2_howManyTurned 23 = .ok (.aload_n 1, 1) := DX2_howManyTurned (23, .aload_n 1, 1) (List.mem_of_getElem? (i := 19) rfl)
theorem dX2_howManyTurned_24 : decode cX2_howManyTurned 24 = .ok (.getfield 57, 3) := DX2_howManyTurned (24, .getfield 57, 3) (List.mem_of_getElem? (i := 20) rfl)
theorem dX2_howManyTurned_27 : decode cX2_howManyTurned 27 = .ok (.iload_n 3, 1) := DX2_howManyTurned (27, .iload_n 3, 1) (List.mem_of_getElem? (i := 21) rfl)
theorem dX2_howManyTurned_28 : decode cX2_howManyTurned 28 = .ok (.iaload, 1) := DX2_howManyTurned (28, .iaload, 1) (List.mem_of_getElem? (i := 22) rfl)
theorem dX2_howManyTurned_29 : decode cX2_howManyTurned 29 = .ok (.iconst 1, 1) := DX2_howManyTurned (29, .iconst 1, 1) (List.mem_of_getElem? (i := 23) rfl)
theorem dX2_howManyTurned_30 : decode cX2_howManyTurned 30 = .ok (.iload_n 2, 1) := DX2_howManyTurned (30, .iload_n 2, 1) (List.mem_of_getElem? (i := 24) rfl)
theorem dX2_howManyTurned_31 : decode cX2_howManyTurned 31 = .ok (.ishl, 1) := DX2_howManyTurned (31, .ishl, 1) (List.mem_of_getElem? (i := 25) rfl)
theorem dX2_howManyTurned_32 : decode cX2_howManyTurned 32 = .ok (.ixor, 1) := DX2_howManyTurned (32, .ixor, 1) (List.mem_of_getElem? (i := 26) rfl)
theorem dX2_howManyTurned_33 : decode cX2_howManyTurned 33 = .ok (.istore 6, 2) := DX2_howManyTurned (33, .istore 6, 2) (List.mem_of_getElem? (i := 27) rfl)
theorem dX2_howManyTurned_35 : decode cX2_howManyTurned 35 = .ok (.iconst 0, 1) := DX2_howManyTurned (35, .iconst 0, 1) (List.mem_of_getElem? (i := 28) rfl)
theorem dX2_howManyTurned_36 : decode cX2_howManyTurned 36 = .ok (.istore 7, 2) := DX2_howManyTurned (36, .istore 7, 2) (List.mem_of_getElem? (i := 29) rfl)
theorem dX2_howManyTurned_38 : decode cX2_howManyTurned 38 = .ok (.iconst 0, 1) := DX2_howManyTurned (38, .iconst 0, 1) (List.mem_of_getElem? (i := 30) rfl)
theorem dX2_howManyTurned_39 : decode cX2_howManyTurned 39 = .ok (.istore 8, 2) := DX2_howManyTurned (39, .istore 8, 2) (List.mem_of_getElem? (i := 31) rfl)
theorem dX2_howManyTurned_41 : decode cX2_howManyTurned 41 = .ok (.iload 8, 2) := DX2_howManyTurned (41, .iload 8, 2) (List.mem_of_getElem? (i := 32) rfl)
theorem dX2_howManyTurned_43 : decode cX2_howManyTurned 43 = .ok (.aload_n 0, 1) := DX2_howManyTurned (43, .aload_n 0, 1) (List.mem_of_getElem? (i := 33) rfl)
theorem dX2_howManyTurned_44 : decode cX2_howManyTurned 44 = .ok (.getfield 15, 3) := DX2_howManyTurned (44, .getfield 15, 3) (List.mem_of_getElem? (i := 34) rfl)
theorem dX2_howManyTurned_47 : decode cX2_howManyTurned 47 = .ok (.if_icmp .ge 64, 3) := DX2_howManyTurned (47, .if_icmp .ge 64, 3) (List.mem_of_getElem? (i := 35) rfl)
theorem dX2_howManyTurned_50 : decode cX2_howManyTurned 50 = .ok (.aload_n 0, 1) := DX2_howManyTurned (50, .aload_n 0, 1) (List.mem_of_getElem? (i := 36) rfl)
theorem dX2_howManyTurned_51 : decode cX2_howManyTurned 51 = .ok (.getfield 9, 3) := DX2_howManyTurned (51, .getfield 9, 3) (List.mem_of_getElem? (i := 37) rfl)
theorem dX2_howManyTurned_54 : decode cX2_howManyTurned 54 = .ok (.iload 8, 2) := DX2_howManyTurned (54, .iload 8, 2) (List.mem_of_getElem? (i := 38) rfl)
theorem dX2_howManyTurned_56 : decode cX2_howManyTurned 56 = .ok (.iaload, 1) := DX2_howManyTurned (56, .iaload, 1) (List.mem_of_getElem? (i := 39) rfl)
theorem dX2_howManyTurned_57 : decode cX2_howManyTurned 57 = .ok (.iconst (-1), 1) := DX2_howManyTurned (57, .iconst (-1), 1) (List.mem_of_getElem? (i := 40) rfl)
theorem dX2_howManyTurned_58 : decode cX2_howManyTurned 58 = .ok (.if_icmp .eq 47, 3) := DX2_howManyTurned (58, .if_icmp .eq 47, 3) (List.mem_of_getElem? (i := 41) rfl)
theorem dX2_howManyTurned_61 : decode cX2_howManyTurned 61 = .ok (.aload_n 0, 1) := DX2_howManyTurned (61, .aload_n 0, 1) (List.mem_of_getElem? (i := 42) rfl)
theorem dX2_howManyTurned_62 : decode cX2_howManyTurned 62 = .ok (.getfield 9, 3) := DX2_howManyTurned (62, .getfield 9, 3) (List.mem_of_getElem? (i := 43) rfl)
theorem dX2_howManyTurned_65 : decode cX2_howManyTurned 65 = .ok (.iload 8, 2) := DX2_howManyTurned (65, .iload 8, 2) (List.mem_of_getElem? (i := 44) rfl)
theorem dX2_howManyTurned_67 : decode cX2_howManyTurned 67 = .ok (.iaload, 1) := DX2_howManyTurned (67, .iaload, 1) (List.mem_of_getElem? (i := 45) rfl)
theorem dX2_howManyTurned_68 : decode cX2_howManyTurned 68 = .ok (.iload 4, 2) := DX2_howManyTurned (68, .iload 4, 2) (List.mem_of_getElem? (i := 46) rfl)
theorem dX2_howManyTurned_70 : decode cX2_howManyTurned 70 = .ok (.iand, 1) := DX2_howManyTurned (70, .iand, 1) (List.mem_of_getElem? (i := 47) rfl)
theorem dX2_howManyTurned_71 : decode cX2_howManyTurned 71 = .ok (.ifCond .ne 34, 3) := DX2_howManyTurned (71, .ifCond .ne 34, 3) (List.mem_of_getElem? (i := 48) rfl)
theorem dX2_howManyTurned_74 : decode cX2_howManyTurned 74 = .ok (.iload 5, 2) := DX2_howManyTurned (74, .iload 5, 2) (List.mem_of_getElem? (i := 49) rfl)
theorem dX2_howManyTurned_76 : decode cX2_howManyTurned 76 = .ok (.iload 8, 2) := DX2_howManyTurned (76, .iload 8, 2) (List.mem_of_getElem? (i := 50) rfl)
theorem dX2_howManyTurned_78 : decode cX2_howManyTurned 78 = .ok (.invokestatic 60, 3) := DX2_howManyTurned (78, .invokestatic 60, 3) (List.mem_of_getElem? (i := 51) rfl)
theorem dX2_howManyTurned_81 : decode cX2_howManyTurned 81 = .ok (.aload_n 1, 1) := DX2_howManyTurned (81, .aload_n 1, 1) (List.mem_of_getElem? (i := 52) rfl)
theorem dX2_howManyTurned_82 : decode cX2_howManyTurned 82 = .ok (.getfield 63, 3) := DX2_howManyTurned (82, .getfield 63, 3) (List.mem_of_getElem? (i := 53) rfl)
theorem dX2_howManyTurned_85 : decode cX2_howManyTurned 85 = .ok (.if_icmp .gt 20, 3) := DX2_howManyTurned (85, .if_icmp .gt 20, 3) (List.mem_of_getElem? (i := 54) rfl)
theorem dX2_howManyTurned_88 : decode cX2_howManyTurned 88 = .ok (.iload 6, 2) := DX2_howManyTurned (88, .iload 6, 2) (List.mem_of_getElem? (i := 55) rfl)
theorem dX2_howManyTurned_90 : decode cX2_howManyTurned 90 = .ok (.iload 8, 2) := DX2_howManyTurned (90, .iload 8, 2) (List.mem_of_getElem? (i := 56) rfl)
theorem dX2_howManyTurned_92 : decode cX2_howManyTurned 92 = .ok (.invokestatic 60, 3) := DX2_howManyTurned (92, .invokestatic 60, 3) (List.mem_of_getElem? (i := 57) rfl)
theorem dX2_howManyTurned_95 : decode cX2_howManyTurned 95 = .ok (.aload_n 1, 1) := DX2_howManyTurned (95, .aload_n 1, 1) (List.mem_of_getElem? (i := 58) rfl)
theorem dX2_howManyTurned_96 : decode cX2_howManyTurned 96 = .ok (.getfield 63, 3) := DX2_howManyTurned (96, .getfield 63, 3) (List.mem_of_getElem? (i := 59) rfl)
theorem dX2_howManyTurned_99 : decode cX2_howManyTurned 99 = .ok (.if_icmp .gt 6, 3) := DX2_howManyTurned (99, .if_icmp .gt 6, 3) (List.mem_of_getElem? (i := 60) rfl)
theorem dX2_howManyTurned_102 : decode cX2_howManyTurned 102 = .ok (.iinc 7 1, 3) := DX2_howManyTurned (102, .iinc 7 1, 3) (List.mem_of_getElem? (i := 61) rfl)
theorem dX2_howManyTurned_105 : decode cX2_howManyTurned 105 = .ok (.iinc 8 1, 3) := DX2_howManyTurned (105, .iinc 8 1, 3) (List.mem_of_getElem? (i := 62) rfl)
theorem dX2_howManyTurned_108 : decode cX2_howManyTurned 108 = .ok (.goto (-67), 3) := DX2_howManyTurned (108, .goto (-67), 3) (List.mem_of_getElem? (i := 63) rfl)
theorem dX2_howManyTurned_111 : decode cX2_howManyTurned 111 = .ok (.iload 7, 2) := DX2_howManyTurned (111, .iload 7, 2) (List.mem_of_getElem? (i := 64) rfl)
theorem dX2_howManyTurned_113 : decode cX2_howManyTurned 113 = .ok (.ireturn, 1) := DX2_howManyTurned (113, .ireturn, 1) (List.mem_of_getElem? (i := 65) rfl)
set_option maxRecDepth 100000 in
theorem DX3_init : ∀ q ∈ ([(0, .aload_n 0, 1), (1, .invokespecial 3, 3), (4, .aload_n 0, 1), (5, .bipush 96, 2), (7, .newarray .int, 2), (9, .putfield 9, 3), (12, .aload_n 0, 1), (13, .bipush 96, 2), (15, .newarray .int, 2), (17, .putfield 15, 3), (20, .aload_n 0, 1), (21, .iconst 0, 1), (22, .putfield 18, 3), (25, .aload_n 0, 1), (26, .iconst 0, 1), (27, .putfield 22, 3), (30, .aload_n 0, 1), (31, .iconst 0, 1), (32, .putfield 25, 3), (35, .aload_n 0, 1), (36, .iconst 0, 1), (37, .putfield 28, 3), (40, .aload_n 0, 1), (41, .iconst 0, 1), (42, .putfield 32, 3), (45, .aload_n 0, 1), (46, .iconst 0, 1), (47, .putfield 35, 3), (50, .aload_n 0, 1), (51, .iconst 0, 1), (52, .putfield 38, 3), (55, .return_, 1)] : List (Nat × Instr × Nat)), decode cX3_init q.1 = .ok (q.2.1, q.2.2) := by decide +kernel
theorem dX3_init_0 : decode cX3_init 0 = .ok (.aload_n 0, 1) := DX3_init (0, .aload_n 0, 1) (List.mem_of_getElem? (i := 0) rfl)
theorem dX3_init_1 : decode cX3_init 1 = .ok (.invokespecial 3, 3) := DX3_init (1, .invokespecial 3, 3) (List.mem_of_getElem? (i := 1) rfl)
theorem dX3_init_4 : decode cX3_init 4 = .ok (.aload_n 0, 1) := DX3_init (4, .aload_n 0, 1) (List.mem_of_getElem? (i := 2) rfl)
theorem dX3_init_5 : decode cX3_init 5 = .ok (.bipush 96, 2) := DX3_init (5, .bipush 96, 2) (List.mem_of_getElem? (i := 3) rfl)
theorem dX3_init_7 : decode cX3_init 7 = .ok (.newarray .int, 2) := DX3_init (7, .newarray .int, 2) (List.mem_of_getElem? (i := 4) rfl)
theorem dX3_init_9 : decode cX3_init 9 = .ok (.putfield 9, 3) := DX3_init (9, .putfield 9, 3) (List.mem_of_getElem? (i := 5) rfl)
theorem dX3_init_12 : decode cX3_init 12 = .ok (.aload_n 0, 1) := DX3_init (12, .aload_n 0, 1) (List.mem_of_getElem? (i := 6) rfl)
theorem dX3_init_13 : decode cX3_init 13 = .ok (.bipush 96, 2) := DX3_init (13, .bipush 96, 2) (List.mem_of_getElem? (i := 7) rfl)
theorem dX3_init_15 : decode cX3_init 15 = .ok (.newarray .int, 2) := DX3_init (15, .newarray .int, 2) (List.mem_of_getElem? (i := 8) rfl)
theorem dX3_init_17 : decode cX3_init 17 = .ok (.putfield 15, 3) := DX3_init (17, .putfield 15, 3) (List.mem_of_getElem? (i := 9) rfl)
theorem dX3_init_20 : decode cX3_init 20 = .ok (.aload_n 0, 1) := DX3_init (20, .aload_n 0, 1) (List.mem_of_getElem? (i := 10) rfl)
theorem dX3_init_21 : decode cX3_init 21 = .ok (.iconst 0, 1) := DX3_init (21, .iconst 0, 1) (List.mem_of_getElem? (i := 11) rfl)
theorem dX3_init_22 : decode cX3_init 22 = .ok (.putfield 18, 3) := DX3_init (22, .putfield 18, 3) (List.mem_of_getElem? (i := 12) rfl)
theorem dX3_init_25 : decode cX3_init 25 = .ok (.aload_n 0, 1) := DX3_init (25, .aload_n 0, 1) (List.mem_of_getElem? (i := 13) rfl)
theorem dX3_init_26 : decode cX3_init 26 = .ok (.iconst 0, 1) := DX3_init (26, .iconst 0, 1) (List.mem_of_getElem? (i := 14) rfl)
theorem dX3_init_27 : decode cX3_init 27 = .ok (.putfield 22, 3) := DX3_init (27, .putfield 22, 3) (List.mem_of_getElem? (i := 15) rfl)
theorem dX3_init_30 : decode cX3_init 30 = .ok (.aload_n 0, 1) := DX3_init (30, .aload_n 0, 1) (List.mem_of_getElem? (i := 16) rfl)
theorem dX3_init_31 : decode cX3_init 31 = .ok (.iconst 0, 1) := DX3_init (31, .iconst 0, 1) (List.mem_of_getElem? (i := 17) rfl)
theorem dX3_init_32 : decode cX3_init 32 = .ok (.putfield 25, 3) := DX3_init (32, .putfield 25, 3) (List.mem_of_getElem? (i := 18) rfl)
theorem dX3_init_35 : decode cX3_init 35 = .ok (.aload_n 0, 1) := DX3_init (35, .aload_n 0, 1) (List.mem_of_getElem? (i := 19) rfl)
theorem dX3_init_36 : decode cX3_init 36 = .ok (.iconst 0, 1) := DX3_init (36, .iconst 0, 1) (List.mem_of_getElem? (i := 20) rfl)
theorem dX3_init_37 : decode cX3_init 37 = .ok (.putfield 28, 3) := DX3_init (37, .putfield 28, 3) (List.mem_of_getElem? (i := 21) rfl)
theorem dX3_init_40 : decode cX3_init 40 = .ok (.aload_n 0, 1) := DX3_init (40, .aload_n 0, 1) (List.mem_of_getElem? (i := 22) rfl)
theorem dX3_init_41 : decode cX3_init 41 = .ok (.iconst 0, 1) := DX3_init (41, .iconst 0, 1) (List.mem_of_getElem? (i := 23) rfl)
theorem dX3_init_42 : decode cX3_init 42 = .ok (.putfield 32, 3) := DX3_init (42, .putfield 32, 3) (List.mem_of_getElem? (i := 24) rfl)
theorem dX3_init_45 : decode cX3_init 45 = .ok (.aload_n 0, 1) := DX3_init (45, .aload_n 0, 1) (List.mem_of_getElem? (i := 25) rfl)
theorem dX3_init_46 : decode cX3_init 46 = .ok (.iconst 0, 1) := DX3_init (46, .iconst 0, 1) (List.mem_of_getElem? (i := 26) rfl)
theorem dX3_init_47 : decode cX3_init 47 = .ok (.putfield 35, 3) := DX3_init (47, .putfield 35, 3) (List.mem_of_getElem? (i := 27) rfl)
theorem dX3_init_50 : decode cX3_init 50 = .ok (.aload_n 0, 1) := DX3_init (50, .aload_n 0, 1) (List.mem_of_getElem? (i := 28) rfl)
theorem dX3_init_51 : decode cX3_init 51 = .ok (.iconst 0, 1) := DX3_init (51, .iconst 0, 1) (List.mem_of_getElem? (i := 29) rfl)
theorem dX3_init_52 : decode cX3_init 52 = .ok (.putfield 38, 3) := DX3_init (52, .putfield 38, 3) (List.mem_of_getElem? (i := 30) rfl)
theorem dX3_init_55 : decode cX3_init 55 = .ok (.return_, 1) := DX3_init (55, .return_, 1) (List.mem_of_getElem? (i := 31) rfl)
set_option maxRecDepth 100000 in
theorem DX3_append : ∀ q ∈ ([(0, .bipush 24, 2), (2, .istore_n 2, 1), (3, .iload_n 2, 1), (4, .ifCond .lt 44, 3), (7, .aload_n 0, 1), (8, .getfield 18, 3), (11, .bipush 96, 2), (13, .if_icmp .ge 35, 3), (16, .aload_n 0, 1), (17, .getfield 9, 3), (20, .aload_n 0, 1), (21, .getfield 18, 3), (24, .iload_n 1, 1), (25, .iload_n 2, 1), (26, .iushr, 1), (27, .sipush 255, 3), (30, .iand, 1), (31, .iastore, 1), (32, .aload_n 0, 1), (33, .dup, 1), (34, .getfield 18, 3), (37, .iconst 1, 1), (38, .iadd, 1), (39, .putfield 18, 3), (42, .iinc 2 (-8), 3), (45, .goto (-42), 3), (48, .return_, 1)] : List (Nat × Instr × Nat)), decode cX3_append q.1 = .ok (q.2.1, q.2.2) := by decide +kernel
theorem dX3_append_0 : decode cX3_append 0 = .ok (.bipush 24, 2) := DX3_append (0, .bipush 24, 2) (List.mem_of_getElem? (i := 0) rfl)
theorem dX3_append_2 : decode cX3_append 2 = .ok (.istore_n 2, 1) := DX3_append (2, .istore_n 2, 1) (List.mem_of_getElem? (i := 1) rfl)
theorem dX3_append_3 : decode cX3_append 3 = .ok (.iload_n 2, 1) := DX3_append (3, .iload_n 2, 1) (List.mem_of_getElem? (i := 2) rfl)
theorem dX3_append_4 : decode cX3_append 4 = .ok (.ifCond .lt 44, 3) := DX3_append (4, .ifCond .lt 44, 3) (List.mem_of_getElem? (i := 3) rfl)
theorem dX3_append_7 : decode cX3_append 7 = .ok (.aload_n 0, 1) := DX3_append (7, .aload_n 0, 1) (List.mem_of_getElem? (i := 4) rfl)
theorem dX3_append_8 : decode cX3_append 8 = .ok (.getfield 18, 3) := DX3_append (8, .getfield 18, 3) (List.mem_of_getElem? (i := 5) rfl)
theorem dX3_append_11 : decode cX3_append 11 = .ok (.bipush 96, 2) := DX3_append (11, .bipush 96, 2) (List.mem_of_getElem? (i := 6) rfl)
theorem dX3_append_13 : decode cX3_append 13 = .ok (.if_icmp .ge 35, 3) := DX3_append (13, .if_icmp .ge 35, 3) (List.mem_of_getElem? (i := 7) rfl)
theorem dX3_append_16 : decode cX3_append 16 = .ok (.aload_n 0, 1) := DX3_append (16, .aload_n 0, 1) (List.mem_of_getElem? (i := 8) rfl)
theorem dX3_append_17 : decode cX3_append 17 = .ok (.getfield 9, 3) := DX3_append (17, .getfield 9, 3) (List.mem_of_getElem? (i := 9) rfl)
theorem dX3_append_20 : decode cX3_append 20 = .ok (.aload_n 0, 1) := DX3_append (20, .aload_n 0, 1) (List.mem_of_getElem? (i := 10) rfl)
theorem dX3_append_21 : decode cX3_append 21 = .ok (.getfield 18, 3) := DX3_append (21, .getfield 18, 3) (List.mem_of_getElem? (i := 11) rfl)
theorem dX3_append_24 : decode cX3_append 24 = .ok (.iload_n 1, 1) := DX3_append (24, .iload_n 1, 1) (List.mem_of_getElem? (i := 12) rfl)
theorem dX3_append_25 : decode cX3_append 25 = .ok (.iload_n 2, 1) := DX3_append (25, .iload_n 2, 1) (List.mem_of_getElem? (i := 13) rfl)
theorem dX3_append_26 : decode cX3_append 26 = .ok (.iushr, 1) := DX3_append (26, .iushr, 1) (List.mem_of_getElem? (i := 14) rfl)
theorem dX3_append_27 : decode cX3_append 27 = .ok (.sipush 255, 3) := DX3_append (27, .sipush 255, 3) (List.mem_of_getElem? (i := 15) rfl)
theorem dX3_append_30 : decode cX3_append 30 = .ok (.iand, 1) := DX3_append (30, .iand, 1) (List.mem_of_getElem? (i := 16) rfl)
theorem dX3_append_31 : decode cX3_append 31 = .ok (.iastore, 1) := DX3_append (31, .iastore, 1) (List.mem_of_getElem? (i := 17) rfl)
theorem dX3_append_32 : decode cX3_append 32 = .ok (.aload_n 0, 1) := DX3_append (32, .aload_n 0, 1) (List.mem_of_getElem? (i := 18) rfl)
theorem dX3_append_33 : decode cX3_append 33 = .ok (.dup, 1) := DX3_append (33, .dup, 1) (List.mem_of_getElem? (i := 19) rfl)
theorem dX3_append_34 : decode cX3_append 34 = .ok (.getfield 18, 3) := DX3_append (34, .getfield 18, 3) (List.mem_of_getElem? (i := 20) rfl)
theorem dX3_append_37 : decode cX3_append 37 = .ok (.iconst 1, 1) := DX3_append (37, .iconst 1, 1) (List.mem_of_getElem? (i := 21) rfl)
theorem dX3_append_38 : decode cX3_append 38 = .ok (.iadd, 1) := DX3_append (38, .iadd, 1) (List.mem_of_getElem? (i := 22) rfl)
theorem dX3_append_39 : decode cX3_append 39 = .ok (.putfield 18, 3) := DX3_append (39, .putfield 18, 3) (List.mem_of_getElem? (i := 23) rfl)
theorem dX3_append_42 : decode cX3_append 42 = .ok (.iinc 2 (-8), 3) := DX3_append (42, .iinc 2 (-8), 3) (List.mem_of_getElem? (i := 24) rfl)
theorem dX3_append_45 : decode cX3_append 45 = .ok (.goto (-42), 3) := DX3_append (45, .goto (-42), 3) (List.mem_of_getElem? (i := 25) rfl)
theorem dX3_append_48 : decode cX3_append 48 = .ok (.return_, 1) := DX3_append (48, .return_, 1) (List.mem_of_getElem? (i := 26) rfl)
set_option maxRecDepth 100000 in
theorem DX3_read : ∀ q ∈ ([(0, .aload_n 0, 1), (1, .iconst 0, 1), (2, .putfield 22, 3), (5, .aload_n 0, 1), (6, .iconst 0, 1), (7, .putfield 25, 3), (10, .aload_n 0, 1), (11, .iconst 0, 1), (12, .putfield 35, 3), (15, .aload_n 0, 1), (16, .iconst 0, 1), (17, .putfield 38, 3), (20, .aload_n 0, 1), (21, .invokevirtual 41, 3), (24, .aload_n 0, 1), (25, .aload_n 0, 1), (26, .invokevirtual 44, 3), (29, .putfield 32, 3), (32, .aload_n 0, 1), (33, .getfield 32, 3), (36, .ifCond .ge 5, 3), (39, .iconst 0, 1), (40, .ireturn, 1), (41, .aload_n 0, 1), (42, .invokevirtual 41, 3), (45, .aload_n 0, 1), (46, .iconst 0, 1), (47, .iconst 0, 1), (48, .iconst 0, 1), (49, .invokevirtual 48, 3), (52, .ifCond .eq 18, 3), (55, .aload_n 0, 1), (56, .getfield 22, 3), (59, .aload_n 0, 1), (60, .getfield 18, 3), (63, .if_icmp .lt 7, 3), (66, .iconst 1, 1), (67, .goto 4, 3), (70, .iconst 0, 1), (71, .ireturn, 1)] : List (Nat × Instr × Nat)), decode cX3_read q.1 = .ok (q.2.1, q.2.2) := by decide +kernel
theorem dX3_read_0 : decode cX3_read 0 = .ok (.aload_n 0, 1) := DX3_read (0, .aload_n 0, 1) (List.mem_of_getElem? (i := 0) rfl)
theorem dX3_read_1 : decode cX3_read 1 = .ok (.iconst 0, 1) := DX3_read (1, .iconst 0, 1) (List.mem_of_getElem? (i := 1) rfl)
theorem dX3_read_2 : decode cX3_read 2 = .ok (.putfield 22, 3) := DX3_read (2, .putfield 22, 3) (List.mem_of_getElem? (i := 2) rfl)
theorem dX3_read_5 : decode cX3_read 5 = .ok (.aload_n 0, 1) := DX3_read (5, .aload_n 0, 1) (List.mem_of_getElem? (i := 3) rfl)
theorem dX3_read_6 : decode cX3_read 6 = .ok (.iconst 0, 1) := DX3_read (6, .iconst 0, 1) (List.mem_of_getElem? (i := 4) rfl)
theorem dX3_read_7 : decode cX3_read 7 = .ok (.putfield 25, 3) := DX3_read (7, .putfield 25, 3) (List.mem_of_getElem? (i := 5) rfl)
theorem dX3_read_10 : decode cX3_read 10 = .ok (.aload_n 0, 1) := DX3_read (10, .aload_n 0, 1) (List.mem_of_getElem? (i := 6) rfl)
theorem dX3_read_11 : decode cX3_read 11 = .ok (.iconst 0, 1) := DX3_read (11, .iconst 0, 1) (List.mem_of_getElem? (i := 7) rfl)
theorem dX3_read_12 : decode cX3_read 12 = .ok (.putfield 35, 3) := DX3_read (12, .putfield 35, 3) (List.mem_of_getElem? (i := 8) rfl)
theorem dX3_read_15 : decode cX3_read 15 = .ok (.aload_n 0, 1) := DX3_read (15, .aload_n 0, 1) (List.mem_of_getElem? (i := 9) rfl)
theorem dX3_read_16 : decode cX3_read 16 = .ok (.iconst 0, 1) := DX3_read (16, .iconst 0, 1) (List.mem_of_getElem? (i := 10) rfl)
theorem dX3_read_17 : decode cX3_read 17 = .ok (.putfield 38, 3) := DX3_read (17, .putfield 38, 3) (List.mem_of_getElem? (i := 11) rfl)
theorem dX3_read_20 : decode cX3_read 20 = .ok (.aload_n 0, 1) := DX3_read (20, .aload_n 0, 1) (List.mem_of_getElem? (i := 12) rfl)
theorem dX3_read_21 : decode cX3_read 21 = .ok (.invokevirtual 41, 3) := DX3_read (21, .invokevirtual 41, 3) (List.mem_of_getElem? (i := 13) rfl)
theorem dX3_read_24 : decode cX3_read 24 = .ok (.aload_n 0, 1) := DX3_read (24, .aload_n 0, 1) (List.mem_of_getElem? (i := 14) rfl)
theorem dX3_read_25 : decode cX3_read 25 = .ok (.aload_n 0, 1) := DX3_read (25, .aload_n 0, 1) (List.mem_of_getElem? (i := 15) rfl)
theorem dX3_read_26 : decode cX3_read 26 = .ok (.invokevirtual 44, 3) := DX3_read (26, .invokevirtual 44, 3) (List.mem_of_getElem? (i := 16) rfl)
theorem dX3_read_29 : decode cX3_read 29 = .ok (.putfield 32, 3) := DX3_read (29, .putfield 32, 3) (List.mem_of_getElem? (i := 17) rfl)
theorem dX3_read_32 : decode cX3_read 32 = .ok (.aload_n 0, 1) := DX3_read (32, .aload_n 0, 1) (List.mem_of_getElem? (i := 18) rfl)
theorem dX3_read_33 : decode cX3_read 33 = .ok (.getfield 32, 3) := DX3_read (33, .getfield 32, 3) (List.mem_of_getElem? (i := 19) rfl)
theorem dX3_read_36 : decode cX3_read 36 = .ok (.ifCond .ge 5, 3) := DX3_read (36, .ifCond .ge 5, 3) (List.mem_of_getElem? (i := 20) rfl)
theorem dX3_read_39 : decode cX3_read 39 = .ok (.iconst 0, 1) := DX3_read (39, .iconst 0, 1) (List.mem_of_getElem? (i := 21) rfl)
theorem dX3_read_40 : decode cX3_read 40 = .ok (.ireturn, 1) := DX3_read (40, .ireturn, 1) (List.mem_of_getElem? (i := 22) rfl)
theorem dX3_read_41 : decode cX3_read 41 = .ok (.aload_n 0, 1) := DX3_read (41, .aload_n 0, 1) (List.mem_of_getElem? (i := 23) rfl)
theorem dX3_read_42 : decode cX3_read 42 = .ok (.invokevirtual 41, 3) := DX3_read (42, .invokevirtual 41, 3) (List.mem_of_getElem? (i := 24) rfl)
theorem dX3_read_45 : decode cX3_read 45 = .ok (.aload_n 0, 1) := DX3_read (45, .aload_n 0, 1) (List.mem_of_getElem? (i := 25) rfl)
theorem dX3_read_46 : decode cX3_read 46 = .ok (.iconst 0, 1) := DX3_read (46, .iconst 0, 1) (List.mem_of_getElem? (i := 26) rfl)
theorem dX3_read_47 : decode cX3_read 47 = .ok (.iconst 0, 1) := DX3_read (47, .iconst 0, 1) (List.mem_of_getElem? (i := 27) rfl)
theorem dX3_read_48 : decode cX3_read 48 = .ok (.iconst 0, 1) := DX3_read (48, .iconst 0, 1) (List.mem_of_getElem? (i := 28) rfl)
theorem dX3_read_49 : decode cX3_read 49 = .ok (.invokevirtual 48, 3) := DX3_read (49, .invokevirtual 48, 3) (List.mem_of_getElem? (i := 29) rfl)
theorem dX3_read_52 : decode cX3_read 52 = .ok (.ifCond .eq 18, 3) := DX3_read (52, .ifCond .eq 18, 3) (List.mem_of_getElem? (i := 30) rfl)
theorem dX3_read_55 : decode cX3_read 55 = .ok (.aload_n 0, 1) := DX3_read (55, .aload_n 0, 1) (List.mem_of_getElem? (i := 31) rfl)
theorem dX3_read_56 : decode cX3_read 56 = .ok (.getfield 22, 3) := DX3_read (56, .getfield 22, 3) (List.mem_of_getElem? (i := 32) rfl)
theorem dX3_read_59 : decode cX3_read 59 = .ok (.aload_n 0, 1) := DX3_read (59, .aload_n 0, 1) (List.mem_of_getElem? (i := 33) rfl)
theorem dX3_read_60 : decode cX3_read 60 = .ok (.getfield 18, 3) := DX3_read (60, .getfield 18, 3) (List.mem_of_getElem? (i := 34) rfl)
theorem dX3_read_63 : decode cX3_read 63 = .ok (.if_icmp .lt 7, 3) := DX3_read (63, .if_icmp .lt 7, 3) (List.mem_of_getElem? (i := 35) rfl)
theorem dX3_read_66 : decode cX3_read 66 = .ok (.iconst 1, 1) := DX3_read (66, .iconst 1, 1) (List.mem_of_getElem? (i := 36) rfl)
theorem dX3_read_67 : decode cX3_read 67 = .ok (.goto 4, 3) := DX3_read (67, .goto 4, 3) (List.mem_of_getElem? (i := 37) rfl)
theorem dX3_read_70 : decode cX3_read 70 = .ok (.iconst 0, 1) := DX3_read (70, .iconst 0, 1) (List.mem_of_getElem? (i := 38) rfl)
theorem dX3_read_71 : decode cX3_read 71 = .ok (.ireturn, 1) := DX3_read (71, .ireturn, 1) (List.mem_of_getElem? (i := 39) rfl)
set_option maxRecDepth 100000 in
theorem DX3_next : ∀ q ∈ ([(0, .aload_n 0, 1), (1, .getfield 25, 3), (4, .istore_n 1, 1), (5, .aload_n 0, 1), (6, .iload_n 1, 1), (7, .iconst 1, 1), (8, .isub, 1), (9, .invokevirtual 52, 3), (12, .istore_n 2, 1), (13, .aload_n 0, 1), (14, .iload_n 1, 1), (15, .putfield 22, 3), (18, .aload_n 0, 1), (19, .getfield 22, 3), (22, .aload_n 0, 1), (23, .getfield 18, 3), (26, .if_icmp .ge 30, 3), (29, .aload_n 0, 1), (30, .getfield 9, 3), (33, .aload_n 0, 1), (34, .getfield 22, 3), (37, .iaload, 1), (38, .bipush 32, 2), (40, .if_icmp .ne 16, 3), (43, .aload_n 0, 1), (44, .dup, 1), (45, .getfield 22, 3), (48, .iconst 1, 1), (49, .iadd, 1), (50, .putfield 22, 3), (53, .goto (-35), 3), (56, .aload_n 0, 1), (57, .aload_n 0, 1), (58, .getfield 22, 3), (61, .invokevirtual 52, 3), (64, .istore_n 3, 1), (65, .aload_n 0, 1), (66, .iload_n 3, 1), (67, .ifCond .ne 10, 3), (70, .aload_n 0, 1), (71, .getfield 22, 3), (74, .goto 9, 3), (77, .aload_n 0, 1), (78, .getfield 22, 3), (81, .iconst 1, 1), (82, .iadd, 1), (83, .putfield 25, 3), (86, .iload_n 3, 1), (87, .iconst 1, 1), (88, .if_icmp .le 39, 3), (91, .aload_n 0, 1), (92, .getfield 25, 3), (95, .aload_n 0, 1), (96, .getfield 18, 3), (99, .if_icmp .ge 28, 3), (102, .aload_n 0, 1), (103, .aload_n 0, 1), (104, .getfield 25, 3), (107, .invokevirtual 52, 3), (110, .iload_n 3, 1), (111, .if_icmp .ne 16, 3), (114, .aload_n 0, 1), (115, .dup, 1), (116, .getfield 25, 3), (119, .iconst 1, 1), (120, .iadd, 1), (121, .putfield 25, 3), (124, .goto (-38), 3), (127, .aload_n 0, 1), (128, .iload_n 2, 1), (129, .iconst 1, 1), (130, .if_icmp .le 20, 3), (133, .iload_n 3, 1), (134, .iconst 1, 1), (135, .if_icmp .le 15, 3), (138, .aload_n 0, 1), (139, .getfield 22, 3), (142, .iload_n 1, 1), (143, .if_icmp .ne 7, 3), (146, .iconst 1, 1), (147, .goto 4, 3), (150, .iconst 0, 1), (151, .putfield 28, 3), (154, .return_, 1)] : List (Nat × Instr × Nat)), decode cX3_next q.1 = .ok (q.2.1, q.2.2) := by decide +kernel
theorem dX3_next_0 : decode cX3_next 0 = .ok (.aload_n 0, 1) := DX3_next (0, .aload_n 0, 1) (List.mem_of_getElem? (i := 0) rfl)
theorem dX3_next_1 : decode cX3_next 1 = .ok (.getfield 25, 3) := DX3_next (1, .getfield 25, 3) (List.mem_of_getElem? (i := 1) rfl)
theorem dX3_next_4 : decode cX3_next 4 = .ok (.istore_n 1, 1) := DX3_next (4, .istore_n 1, 1) (List.mem_of_getElem? (i := 2) rfl)
theorem dX3_next_5 : decode cX3_next 5 = .ok (.aload_n 0, 1) := DX3_next (5, .aload_n 0, 1) (List.mem_of_getElem? (i := 3) rfl)
theorem dX3_next_6 : decode cX3_next 6 = .ok (.iload_n 1, 1) := DX3_next (6, .iload_n 1, 1) (List.mem_of_getElem? (i := 4) rfl)
theorem dX3_next_7 : decode cX3_next 7 = .ok (.iconst 1, 1) := DX3_next (7, .iconst 1, 1) (List.mem_of_getElem? (i := 5) rfl)
theorem dX3_next_8 : decode cX3_next 8 = .ok (.isub, 1) := DX3_next (8, .isub, 1) (List.mem_of_getElem? (i := 6) rfl)
theorem dX3_next_9 : decode cX3_next 9 = .ok (.invokevirtual 52, 3) := DX3_next (9, .invokevirtual 52, 3) (List.mem_of_getElem? (i := 7) rfl)
theorem dX3_next_12 : decode cX3_next 12 = .ok (.istore_n 2, 1) := DX3_next (12, .istore_n 2, 1) (List.mem_of_getElem? (i := 8) rfl)
theorem dX3_next_13 : decode cX3_next 13 = .ok (.aload_n 0, 1) := DX3_next (13, .aload_n 0, 1) (List.mem_of_getElem? (i := 9) rfl)
theorem dX3_next_14 : decode cX3_next 14 = .ok (.iload_n 1, 1) := DX3_next (14, .iload_n 1, 1) (List.mem_of_getElem? (i := 10) rfl)
theorem dX3_next_15 : decode cX3_next 15 = .ok (.putfield 22, 3) := DX3_next (15, .putfield 22, 3) (List.mem_of_getElem? (i := 11) rfl)
theorem dX3_next_18 : decode cX3_next 18 = .ok (.aload_n 0, 1) := DX3_next (18, .aload_n 0, 1) (List.mem_of_getElem? (i := 12) rfl)
theorem dX3_next_19 : decode cX3_next 19 = .ok (.getfield 22, 3) := DX3_next (19, .getfield 22, 3) (List.mem_of_getElem? (i := 13) rfl)
theorem dX3_next_22 : decode cX3_next 22 = .ok (.aload_n 0, 1) := DX3_next (22, .aload_n 0, 1) (List.mem_of_getElem? (i := 14) rfl)
theorem dX3_next_23 : decode cX3_next 23 = .ok (.getfield 18, 3) := DX3_next (23, .getfield 18, 3) (List.mem_of_getElem? (i := 15) rfl)
theorem dX3_next_26 : decode cX3_next 26 = .ok (.if_icmp .ge 30, 3) := DX3_next (26, .if_icmp .ge 30, 3) (List.mem_of_getElem? (i := 16) rfl)
theorem dX3_next_29 : decode cX3_next 29 = .ok (.aload_n 0, 1) := DX3_next (29, .aload_n 0, 1) (List.mem_of_getElem? (i := 17) rfl)
theorem dX3_next_30 : decode cX3_next 30 = .ok (.getfield 9, 3) := DX3_next (30, .getfield 9, 3) (List.mem_of_getElem? (i := 18) rfl)
theorem dX3_next_33 : decode cX3_next 33 = .ok (.aload_n 0, 1) := DX3_next (33, .aload_n 0, 1) (List.mem_of_getElem? (i := 19) rfl)
theorem dX3_next_34 : decode cX3_next 34 = .ok (.getfield 22, 3) := DX3_next (34, .getfield 22, 3) (List.mem_of_getElem? (i := 20) rfl)
theorem dX3_next_37 : decode cX3_next 37 = .ok (.iaload, 1) := DX3_next (37, .iaload, 1) (List.mem_of_getElem? (i := 21) rfl)
theorem dX3_next_38 : decode cX3_next 38 = .ok (.bipush 32, 2) := DX3_next (38, .bipush 32, 2) (List.mem_of_getElem? (i := 22) rfl)
theorem dX3_next_40 : decode cX3_next 40 = .ok (.if_icmp .ne 16, 3) := DX3_next (40, .if_icmp .ne 16, 3) (List.mem_of_getElem? (i := 23) rfl)
theorem dX3_next_43 : decode cX3_next 43 = .ok (.aload_n 0, 1) := DX3_next (43, .aload_n 0, 1) (List.mem_of_getElem? (i := 24) rfl)
theorem dX3_next_44 : decode cX3_next 44 = .ok (.dup, 1) := DX3_next (44, .dup, 1) (List.mem_of_getElem? (i := 25) rfl)
theorem dX3_next_45 : decode cX3_next 45 = .ok (.getfield 22, 3) := DX3_next (45, .getfield 22, 3) (List.mem_of_getElem? (i := 26) rfl)
theorem dX3_next_48 : decode cX3_next 48 = .ok (.iconst 1, 1) := DX3_next (48, .iconst 1, 1) (List.mem_of_getElem? (i := 27) rfl)
theorem dX3_next_49 : decode cX3_next 49 = .ok (.iadd, 1) := DX3_next (49, .iadd, 1) (List.mem_of_getElem? (i := 28) rfl)
theorem dX3_next_50 : decode cX3_next 50 = .ok (.putfield 22, 3) := DX3_next (50, .putfield 22, 3) (List.mem_of_getElem? (i := 29) rfl)
theorem dX3_next_53 : decode cX3_next 53 = .ok (.goto (-35), 3) := DX3_next (53, .goto (-35), 3) (List.mem_of_getElem? (i := 30) rfl)
theorem dX3_next_56 : decode cX3_next 56 = .ok (.aload_n 0, 1) := DX3_next (56, .aload_n 0, 1) (List.mem_of_getElem? (i := 31) rfl)
theorem dX3_next_57 : decode cX3_next 57 = .ok (.aload_n 0, 1) := DX3_next (57, .aload_n 0, 1) (List.mem_of_getElem? (i := 32) rfl)
theorem dX3_next_58 : decode cX3_next 58 = .ok (.getfield 22, 3) := DX3_next (58, .getfield 22, 3) (List.mem_of_getElem? (i := 33) rfl)
theorem dX3_next_61 : decode cX3_next 61 = .ok (.invokevirtual 52, 3) := DX3_next (61, .invokevirtual 52, 3) (List.mem_of_getElem? (i := 34) rfl)
theorem dX3_next_64 : decode cX3_next 64 = .ok (.istore_n 3, 1) := DX3_next (64, .istore_n 3, 1) (List.mem_of_getElem? (i := 35) rfl)
theorem dX3_next_65 : decode cX3_next 65 = .ok (.aload_n 0, 1) := DX3_next (65, .aload_n 0, 1) (List.mem_of_getElem? (i := 36) rfl)
theorem dX3_next_66 : decode cX3_next 66 = .ok (.iload_n 3, 1) := DX3_next (66, .iload_n 3, 1) (List.mem_of_getElem? (i := 37) rfl)
theorem dX3_next_67 : decode cX3_next 67 = .ok (.ifCond .ne 10, 3) := DX3_next (67, .ifCond .ne 10, 3) (List.mem_of_getElem? (i := 38) rfl)
theorem dX3_next_70 : decode cX3_next 70 = .ok (.aload_n 0, 1) := DX3_next (70, .aload_n 0, 1) (List.mem_of_getElem? (i := 39) rfl)
theorem dX3_next_71 : decode cX3_next 71 = .ok (.getfield 22, 3) := DX3_next (71, .getfield 22, 3) (List.mem_of_getElem? (i := 40) rfl)
theorem dX3_next_74 : decode cX3_next 74 = .ok (.goto 9, 3) := DX3_next (74, .goto 9, 3) (List.mem_of_getElem? (i := 41) rfl)
theorem dX3_next_77 : decode cX3_next 77 = .ok (.aload_n 0, 1) := DX3_next (77, .aload_n 0, 1) (List.mem_of_getElem? (i := 42) rfl)
theorem dX3_next_78 : decode cX3_next 78 = .ok (.getfield 22, 3) := DX3_next (78, .getfield 22, 3) (List.mem_of_getElem? (i := 43) rfl)
theorem dX3_next_81 : decode cX3_next 81 = .ok (.iconst 1, 1) := DX3_next (81, .iconst 1, 1) (List.mem_of_getElem? (i := 44) rfl)
theorem dX3_next_82 : decode cX3_next 82 = .ok (.iadd, 1) := DX3_next (82, .iadd, 1) (List.mem_of_getElem? (i := 45) rfl)
theorem dX3_next_83 : decode cX3_next 83 = .ok (.putfield 25, 3) := DX3_next (83, .putfield 25, 3) (List.mem_of_getElem? (i := 46) rfl)
theorem dX3_next_86 : decode cX3_next 86 = .ok (.iload_n 3, 1) := DX3_next (86, .iload_n 3, 1) (List.mem_of_getElem? (i := 47) rfl)
theorem dX3_next_87 : decode cX3_next 87 = .ok (.iconst 1, 1) := DX3_next (87, .iconst 1, 1) (List.mem_of_getElem? (i := 48) rfl)
theorem dX3_next_88 : decode cX3_next 88 = .ok (.if_icmp .le 39, 3) := DX3_next (88, .if_icmp .le 39, 3) (List.mem_of_getElem? (i := 49) rfl)
theorem dX3_next_91 : decode cX3_next 91 = .ok (.aload_n 0, 1) := DX3_next (91, .aload_n 0, 1) (List.mem_of_getElem? (i := 50) rfl)
theorem dX3_next_92 : decode cX3_next 92 = .ok (.getfield 25, 3) := DX3_next (92, .getfield 25, 3) (List.mem_of_getElem? (i := 51) rfl)
theorem dX3_next_95 : decode cX3_next 95 = .ok (.aload_n 0, 1) := DX3_next (95, .aload_n 0, 1) (List.mem_of_getElem? (i := 52) rfl)
theorem dX3_next_96 : decode cX3_next 96 = .ok (.getfield 18, 3) := DX3_next (96, .getfield 18, 3) (List.mem_of_getElem? (i := 53) rfl)
theorem dX3_next_99 : decode cX3_next 99 = .ok (.if_icmp .ge 28, 3) := DX3_next (99, .if_icmp .ge 28, 3) (List.mem_of_getElem? (i := 54) rfl)
theorem dX3_next_102 : decode cX3_next 102 = .ok (.aload_n 0, 1) := DX3_next (102, .aload_n 0, 1) (List.mem_of_getElem? (i := 55) rfl)
theorem dX3_next_103 : decode cX3_next 103 = .ok (.aload_n 0, 1) := DX3_next (103, .aload_n 0, 1) (List.mem_of_getElem? (i := 56) rfl)
theorem dX3_next_104 : decode cX3_next 104 = .ok (.getfield 25, 3) := DX3_next (104, .getfield 25, 3) (List.mem_of_getElem? (i := 57) rfl)
theorem dX3_next_107 : decode cX3_next 107 = .ok (.invokevirtual 52, 3) := DX3_next (107, .invokevirtual 52, 3) (List.mem_of_getElem? (i := 58) rfl)
theorem dX3_next_110 : decode cX3_next 110 = .ok (.iload_n 3, 1) := DX3_next (110, .iload_n 3, 1) (List.mem_of_getElem? (i := 59) rfl)
theorem dX3_next_111 : decode cX3_next 111 = .ok (.if_icmp .ne 16, 3) := DX3_next (111, .if_icmp .ne 16, 3) (List.mem_of_getElem? (i := 60) rfl)
theorem dX3_next_114 : decode cX3_next 114 = .ok (.aload_n 0, 1) := DX3_next (114, .aload_n 0, 1) (List.mem_of_getElem? (i := 61) rfl)
theorem dX3_next_115 : decode cX3_next 115 = .ok (.dup, 1) := DX3_next (115, .dup, 1) (List.mem_of_getElem? (i := 62) rfl)
theorem dX3_next_116 : decode cX3_next 116 = .ok (.getfield 25, 3) := DX3_next (116, .getfield 25, 3) (List.mem_of_getElem? (i := 63) rfl)
theorem dX3_next_119 : decode cX3_next 119 = .ok (.iconst 1, 1) := DX3_next (119, .iconst 1, 1) (List.mem_of_getElem? (i := 64) rfl)
theorem dX3_next_120 : decode cX3_next 120 = .ok (.iadd, 1) := DX3_next (120, .iadd, 1) (List.mem_of_getElem? (i := 65) rfl)
theorem dX3_next_121 : decode cX3_next 121 = .ok (.putfield 25, 3) := DX3_next (121, .putfield 25, 3) (List.mem_of_getElem? (i := 66) rfl)
theorem dX3_next_124 : decode cX3_next 124 = .ok (.goto (-38), 3) := DX3_next (124, .goto (-38), 3) (List.mem_of_getElem? (i := 67) rfl)
theorem dX3_next_127 : decode cX3_next 127 = .ok (.aload_n 0, 1) := DX3_next (127, .aload_n 0, 1) (List.mem_of_getElem? (i := 68) rfl)
theorem dX3_next_128 : decode cX3_next 128 = .ok (.iload_n 2, 1) := DX3_next (128, .iload_n 2, 1) (List.mem_of_getElem? (i := 69) rfl)
theorem dX3_next_129 : decode cX3_next 129 = .ok (.iconst 1, 1) := DX3_next (129, .iconst 1, 1) (List.mem_of_getElem? (i := 70) rfl)
theorem dX3_next_130 : decode cX3_next 130 = .ok (.if_icmp .le 20, 3) := DX3_next (130, .if_icmp .le 20, 3) (List.mem_of_getElem? (i := 71) rfl)
theorem dX3_next_133 : decode cX3_next 133 = .ok (.iload_n 3, 1) := DX3_next (133, .iload_n 3, 1) (List.mem_of_getElem? (i := 72) rfl)
theorem dX3_next_134 : decode cX3_next 134 = .ok (.iconst 1, 1) := DX3_next (134, .iconst 1, 1) (List.mem_of_getElem? (i := 73) rfl)
theorem dX3_next_135 : decode cX3_next 135 = .ok (.if_icmp .le 15, 3) := DX3_next (135, .if_icmp .le 15, 3) (List.mem_of_getElem? (i := 74) rfl)
theorem dX3_next_138 : decode cX3_next 138 = .ok (.aload_n 0, 1) := DX3_next (138, .aload_n 0, 1) (List.mem_of_getElem? (i := 75) rfl)
theorem dX3_next_139 : decode cX3_next 139 = .ok (.getfield 22, 3) := DX3_next (139, .getfield 22, 3) (List.mem_of_getElem? (i := 76) rfl)
theorem dX3_next_142 : decode cX3_next 142 = .ok (.iload_n 1, 1) := DX3_next (142, .iload_n 1, 1) (List.mem_of_getElem? (i := 77) rfl)
theorem dX3_next_143 : decode cX3_next 143 = .ok (.if_icmp .ne 7, 3) := DX3_next (143, .if_icmp .ne 7, 3) (List.mem_of_getElem? (i := 78) rfl)
theorem dX3_next_146 : decode cX3_next 146 = .ok (.iconst 1, 1) := DX3_next (146, .iconst 1, 1) (List.mem_of_getElem? (i := 79) rfl)
theorem dX3_next_147 : decode cX3_next 147 = .ok (.goto 4, 3) := DX3_next (147, .goto 4, 3) (List.mem_of_getElem? (i := 80) rfl)
theorem dX3_next_150 : decode cX3_next 150 = .ok (.iconst 0, 1) := DX3_next (150, .iconst 0, 1) (List.mem_of_getElem? (i := 81) rfl)
theorem dX3_next_151 : decode cX3_next 151 = .ok (.putfield 28, 3) := DX3_next (151, .putfield 28, 3) (List.mem_of_getElem? (i := 82) rfl)
theorem dX3_next_154 : decode cX3_next 154 = .ok (.return_, 1) := DX3_next (154, .return_, 1) (List.mem_of_getElem? (i := 83) rfl)
set_option maxRecDepth 100000 in
theorem DX3_sortAt : ∀ q ∈ ([(0, .iload_n 1, 1), (1, .ifCond .lt 11, 3), (4, .iload_n 1, 1), (5, .aload_n 0, 1), (6, .getfield 18, 3), (9, .if_icmp .lt 5, 3), (12, .iconst 0, 1), (13, .ireturn, 1), (14, .aload_n 0, 1), (15, .getfield 9, 3), (18, .iload_n 1, 1), (19, .iaload, 1), (20, .istore_n 2, 1), (21, .iload_n 2, 1), (22, .bipush 97, 2), (24, .if_icmp .lt 11, 3), (27, .iload_n 2, 1), (28, .bipush 122, 2), (30, .if_icmp .gt 5, 3), (33, .iconst 2, 1), (34, .ireturn, 1), (35, .iload_n 2, 1), (36, .bipush 48, 2), (38, .if_icmp .lt 13, 3), (41, .iload_n 2, 1), (42, .bipush 57, 2), (44, .if_icmp .gt 7, 3), (47, .iconst 3, 1), (48, .goto 4, 3), (51, .iconst 1, 1), (52, .ireturn, 1)] : List (Nat × Instr × Nat)), decode cX3_sortAt q.1 = .ok (q.2.1, q.2.2) := by decide +kernel
theorem dX3_sortAt_0 : decode cX3_sortAt 0 = .ok (.iload_n 1, 1) := DX3_sortAt (0, .iload_n 1, 1) (List.mem_of_getElem? (i := 0) rfl)
theorem dX3_sortAt_1 : decode cX3_sortAt 1 = .ok (.ifCond .lt 11, 3) := DX3_sortAt (1, .ifCond .lt 11, 3) (List.mem_of_getElem? (i := 1) rfl)
theorem dX3_sortAt_4 : decode cX3_sortAt 4 = .ok (.iload_n 1, 1) := DX3_sortAt (4, .iload_n 1, 1) (List.mem_of_getElem? (i := 2) rfl)
theorem dX3_sortAt_5 : decode cX3_sortAt 5 = .ok (.aload_n 0, 1) := DX3_sortAt (5, .aload_n 0, 1) (List.mem_of_getElem? (i := 3) rfl)
theorem dX3_sortAt_6 : decode cX3_sortAt 6 = .ok (.getfield 18, 3) := DX3_sortAt (6, .getfield 18, 3) (List.mem_of_getElem? (i := 4) rfl)
theorem dX3_sortAt_9 : decode cX3_sortAt 9 = .ok (.if_icmp .lt 5, 3) := DX3_sortAt (9, .if_icmp .lt 5, 3) (List.mem_of_getElem? (i := 5) rfl)
theorem dX3_sortAt_12 : decode cX3_sortAt 12 = .ok (.iconst 0, 1) := DX3_sortAt (12, .iconst 0, 1) (List.mem_of_getElem? (i := 6) rfl)
theorem dX3_sortAt_13 : decode cX3_sortAt 13 = .ok (.ireturn, 1) := DX3_sortAt (13, .ireturn, 1) (List.mem_of_getElem? (i := 7) rfl)
theorem dX3_sortAt_14 : decode cX3_sortAt 14 = .ok (.aload_n 0, 1) := DX3_sortAt (14, .aload_n 0, 1) (List.mem_of_getElem? (i := 8) rfl)
theorem dX3_sortAt_15 : decode cX3_sortAt 15 = .ok (.getfield 9, 3) := DX3_sortAt (15, .getfield 9, 3) (List.mem_of_getElem? (i := 9) rfl)
theorem dX3_sortAt_18 : decode cX3_sortAt 18 = .ok (.iload_n 1, 1) := DX3_sortAt (18, .iload_n 1, 1) (List.mem_of_getElem? (i := 10) rfl)
theorem dX3_sortAt_19 : decode cX3_sortAt 19 = .ok (.iaload, 1) := DX3_sortAt (19, .iaload, 1) (List.mem_of_getElem? (i := 11) rfl)
theorem dX3_sortAt_20 : decode cX3_sortAt 20 = .ok (.istore_n 2, 1) := DX3_sortAt (20, .istore_n 2, 1) (List.mem_of_getElem? (i := 12) rfl)
theorem dX3_sortAt_21 : decode cX3_sortAt 21 = .ok (.iload_n 2, 1) := DX3_sortAt (21, .iload_n 2, 1) (List.mem_of_getElem? (i := 13) rfl)
theorem dX3_sortAt_22 : decode cX3_sortAt 22 = .ok (.bipush 97, 2) := DX3_sortAt (22, .bipush 97, 2) (List.mem_of_getElem? (i := 14) rfl)
theorem dX3_sortAt_24 : decode cX3_sortAt 24 = .ok (.if_icmp .lt 11, 3) := DX3_sortAt (24, .if_icmp .lt 11, 3) (List.mem_of_getElem? (i := 15) rfl)
theorem dX3_sortAt_27 : decode cX3_sortAt 27 = .ok (.iload_n 2, 1) := DX3_sortAt (27, .iload_n 2, 1) (List.mem_of_getElem? (i := 16) rfl)
theorem dX3_sortAt_28 : decode cX3_sortAt 28 = .ok (.bipush 122, 2) := DX3_sortAt (28, .bipush 122, 2) (List.mem_of_getElem? (i := 17) rfl)
theorem dX3_sortAt_30 : decode cX3_sortAt 30 = .ok (.if_icmp .gt 5, 3) := DX3_sortAt (30, .if_icmp .gt 5, 3) (List.mem_of_getElem? (i := 18) rfl)
theorem dX3_sortAt_33 : decode cX3_sortAt 33 = .ok (.iconst 2, 1) := DX3_sortAt (33, .iconst 2, 1) (List.mem_of_getElem? (i := 19) rfl)
theorem dX3_sortAt_34 : decode cX3_sortAt 34 = .ok (.ireturn, 1) := DX3_sortAt (34, .ireturn, 1) (List.mem_of_getElem? (i := 20) rfl)
theorem dX3_sortAt_35 : decode cX3_sortAt 35 = .ok (.iload_n 2, 1) := DX3_sortAt (35, .iload_n 2, 1) (List.mem_of_getElem? (i := 21) rfl)
theorem dX3_sortAt_36 : decode cX3_sortAt 36 = .ok (.bipush 48, 2) := DX3_sortAt (36, .bipush 48, 2) (List.mem_of_getElem? (i := 22) rfl)
theorem dX3_sortAt_38 : decode cX3_sortAt 38 = .ok (.if_icmp .lt 13, 3) := DX3_sortAt (38, .if_icmp .lt 13, 3) (List.mem_of_getElem? (i := 23) rfl)
theorem dX3_sortAt_41 : decode cX3_sortAt 41 = .ok (.iload_n 2, 1) := DX3_sortAt (41, .iload_n 2, 1) (List.mem_of_getElem? (i := 24) rfl)
theorem dX3_sortAt_42 : decode cX3_sortAt 42 = .ok (.bipush 57, 2) := DX3_sortAt (42, .bipush 57, 2) (List.mem_of_getElem? (i := 25) rfl)
theorem dX3_sortAt_44 : decode cX3_sortAt 44 = .ok (.if_icmp .gt 7, 3) := DX3_sortAt (44, .if_icmp .gt 7, 3) (List.mem_of_getElem? (i := 26) rfl)
theorem dX3_sortAt_47 : decode cX3_sortAt 47 = .ok (.iconst 3, 1) := DX3_sortAt (47, .iconst 3, 1) (List.mem_of_getElem? (i := 27) rfl)
theorem dX3_sortAt_48 : decode cX3_sortAt 48 = .ok (.goto 4, 3) := DX3_sortAt (48, .goto 4, 3) (List.mem_of_getElem? (i := 28) rfl)
theorem dX3_sortAt_51 : decode cX3_sortAt 51 = .ok (.iconst 1, 1) := DX3_sortAt (51, .iconst 1, 1) (List.mem_of_getElem? (i := 29) rfl)
theorem dX3_sortAt_52 : decode cX3_sortAt 52 = .ok (.ireturn, 1) := DX3_sortAt (52, .ireturn, 1) (List.mem_of_getElem? (i := 30) rfl)
set_option maxRecDepth 100000 in
theorem DX3_keyHere : ∀ q ∈ ([(0, .aload_n 0, 1), (1, .ldc 56, 2), (3, .invokevirtual 58, 3), (6, .ifCond .eq 5, 3), (9, .iconst 0, 1), (10, .ireturn, 1), (11, .aload_n 0, 1), (12, .ldc 62, 2), (14, .invokevirtual 58, 3), (17, .ifCond .eq 5, 3), (20, .iconst 1, 1), (21, .ireturn, 1), (22, .aload_n 0, 1), (23, .ldc 64, 2), (25, .invokevirtual 58, 3), (28, .ifCond .eq 7, 3), (31, .iconst 2, 1), (32, .goto 4, 3), (35, .iconst (-1), 1), (36, .ireturn, 1)] : List (Nat × Instr × Nat)), decode cX3_keyHere q.1 = .ok (q.2.1, q.2.2) := by decide +kernel
theorem dX3_keyHere_0 : decode cX3_keyHere 0 = .ok (.aload_n 0, 1) := DX3_keyHere (0, .aload_n 0, 1) (List.mem_of_getElem? (i := 0) rfl)
theorem dX3_keyHere_1 : decode cX3_keyHere 1 = .ok (.ldc 56, 2) := DX3_keyHere (1, .ldc 56, 2) (List.mem_of_getElem? (i := 1) rfl)
theorem dX3_keyHere_3 : decode cX3_keyHere 3 = .ok (.invokevirtual 58, 3) := DX3_keyHere (3, .invokevirtual 58, 3) (List.mem_of_getElem? (i := 2) rfl)
theorem dX3_keyHere_6 : decode cX3_keyHere 6 = .ok (.ifCond .eq 5, 3) := DX3_keyHere (6, .ifCond .eq 5, 3) (List.mem_of_getElem? (i := 3) rfl)
theorem dX3_keyHere_9 : decode cX3_keyHere 9 = .ok (.iconst 0, 1) := DX3_keyHere (9, .iconst 0, 1) (List.mem_of_getElem? (i := 4) rfl)
theorem dX3_keyHere_10 : decode cX3_keyHere 10 = .ok (.ireturn, 1) := DX3_keyHere (10, .ireturn, 1) (List.mem_of_getElem? (i := 5) rfl)
theorem dX3_keyHere_11 : decode cX3_keyHere 11 = .ok (.aload_n 0, 1) := DX3_keyHere (11, .aload_n 0, 1) (List.mem_of_getElem? (i := 6) rfl)
theorem dX3_keyHere_12 : decode cX3_keyHere 12 = .ok (.ldc 62, 2) := DX3_keyHere (12, .ldc 62, 2) (List.mem_of_getElem? (i := 7) rfl)
theorem dX3_keyHere_14 : decode cX3_keyHere 14 = .ok (.invokevirtual 58, 3) := DX3_keyHere (14, .invokevirtual 58, 3) (List.mem_of_getElem? (i := 8) rfl)
theorem dX3_keyHere_17 : decode cX3_keyHere 17 = .ok (.ifCond .eq 5, 3) := DX3_keyHere (17, .ifCond .eq 5, 3) (List.mem_of_getElem? (i := 9) rfl)
theorem dX3_keyHere_20 : decode cX3_keyHere 20 = .ok (.iconst 1, 1) := DX3_keyHere (20, .iconst 1, 1) (List.mem_of_getElem? (i := 10) rfl)
theorem dX3_keyHere_21 : decode cX3_keyHere 21 = .ok (.ireturn, 1) := DX3_keyHere (21, .ireturn, 1) (List.mem_of_getElem? (i := 11) rfl)
theorem dX3_keyHere_22 : decode cX3_keyHere 22 = .ok (.aload_n 0, 1) := DX3_keyHere (22, .aload_n 0, 1) (List.mem_of_getElem? (i := 12) rfl)
theorem dX3_keyHere_23 : decode cX3_keyHere 23 = .ok (.ldc 64, 2) := DX3_keyHere (23, .ldc 64, 2) (List.mem_of_getElem? (i := 13) rfl)
theorem dX3_keyHere_25 : decode cX3_keyHere 25 = .ok (.invokevirtual 58, 3) := DX3_keyHere (25, .invokevirtual 58, 3) (List.mem_of_getElem? (i := 14) rfl)
theorem dX3_keyHere_28 : decode cX3_keyHere 28 = .ok (.ifCond .eq 7, 3) := DX3_keyHere (28, .ifCond .eq 7, 3) (List.mem_of_getElem? (i := 15) rfl)
theorem dX3_keyHere_31 : decode cX3_keyHere 31 = .ok (.iconst 2, 1) := DX3_keyHere (31, .iconst 2, 1) (List.mem_of_getElem? (i := 16) rfl)
theorem dX3_keyHere_32 : decode cX3_keyHere 32 = .ok (.goto 4, 3) := DX3_keyHere (32, .goto 4, 3) (List.mem_of_getElem? (i := 17) rfl)
theorem dX3_keyHere_35 : decode cX3_keyHere 35 = .ok (.iconst (-1), 1) := DX3_keyHere (35, .iconst (-1), 1) (List.mem_of_getElem? (i := 18) rfl)
theorem dX3_keyHere_36 : decode cX3_keyHere 36 = .ok (.ireturn, 1) := DX3_keyHere (36, .ireturn, 1) (List.mem_of_getElem? (i := 19) rfl)
set_option maxRecDepth 100000 in
theorem DX3_isHere : ∀ q ∈ ([(0, .aload_n 0, 1), (1, .getfield 25, 3), (4, .aload_n 0, 1), (5, .getfield 22, 3), (8, .isub, 1), (9, .aload_n 1, 1), (10, .invokevirtual 66, 3), (13, .if_icmp .eq 5, 3), (16, .iconst 0, 1), (17, .ireturn, 1), (18, .iconst 0, 1), (19, .istore_n 2, 1), (20, .iload_n 2, 1), (21, .aload_n 1, 1), (22, .invokevirtual 66, 3), (25, .if_icmp .ge 44, 3), (28, .aload_n 0, 1), (29, .getfield 22, 3), (32, .iload_n 2, 1), (33, .iadd, 1), (34, .aload_n 0, 1), (35, .getfield 9, 3), (38, .arraylength, 1), (39, .if_icmp .ge 30, 3), (42, .aload_n 0, 1), (43, .getfield 9, 3), (46, .aload_n 0, 1), (47, .getfield 22, 3), (50, .iload_n 2, 1), (51, .iadd, 1), (52, .iaload, 1), (53, .aload_n 1, 1), (54, .iload_n 2, 1), (55, .invokevirtual 70, 3), (58, .if_icmp .eq 5, 3), (61, .iconst 0, 1), (62, .ireturn, 1), (63, .iinc 2 1, 3), (66, .goto (-46), 3), (69, .iconst 1, 1), (70, .ireturn, 1)] : List (Nat × Instr × Nat)), decode cX3_isHere q.1 = .ok (q.2.1, q.2.2) := by decide +kernel
theorem dX3_isHere_0 : decode cX3_isHere 0 = .ok (.aload_n 0, 1) := DX3_isHere (0, .aload_n 0, 1) (List.mem_of_getElem? (i := 0) rfl)
theorem dX3_isHere_1 : decode cX3_isHere 1 = .ok (.getfield 25, 3) := DX3_isHere (1, .getfield 25, 3) (List.mem_of_getElem? (i := 1) rfl)
theorem dX3_isHere_4 : decode cX3_isHere 4 = .ok (.aload_n 0, 1) := DX3_isHere (4, .aload_n 0, 1) (List.mem_of_getElem? (i := 2) rfl)
theorem dX3_isHere_5 : decode cX3_isHere 5 = .ok (.getfield 22, 3) := DX3_isHere (5, .getfield 22, 3) (List.mem_of_getElem? (i := 3) rfl)
theorem dX3_isHere_8 : decode cX3_isHere 8 = .ok (.isub, 1) := DX3_isHere (8, .isub, 1) (List.mem_of_getElem? (i := 4) rfl)
theorem dX3_isHere_9 : decode cX3_isHere 9 = .ok (.aload_n 1, 1) := DX3_isHere (9, .aload_n 1, 1) (List.mem_of_getElem? (i := 5) rfl)
theorem dX3_isHere_10 : decode cX3_isHere 10 = .ok (.invokevirtual 66, 3) := DX3_isHere (10, .invokevirtual 66, 3) (List.mem_of_getElem? (i := 6) rfl)
theorem dX3_isHere_13 : decode cX3_isHere 13 = .ok (.if_icmp .eq 5, 3) := DX3_isHere (13, .if_icmp .eq 5, 3) (List.mem_of_getElem? (i := 7) rfl)
theorem dX3_isHere_16 : decode cX3_isHere 16 = .ok (.iconst 0, 1) := DX3_isHere (16, .iconst 0, 1) (List.mem_of_getElem? (i := 8) rfl)
theorem dX3_isHere_17 : decode cX3_isHere 17 = .ok (.ireturn, 1) := DX3_isHere (17, .ireturn, 1) (List.mem_of_getElem? (i := 9) rfl)
theorem dX3_isHere_18 : decode cX3_isHere 18 = .ok (.iconst 0, 1) := DX3_isHere (18, .iconst 0, 1) (List.mem_of_getElem? (i := 10) rfl)
theorem dX3_isHere_19 : decode cX3_isHere 19 = .ok (.istore_n 2, 1) := DX3_isHere (19, .istore_n 2, 1) (List.mem_of_getElem? (i := 11) rfl)
theorem dX3_isHere_20 : decode cX3_isHere 20 = .ok (.iload_n 2, 1) := DX3_isHere (20, .iload_n 2, 1) (List.mem_of_getElem? (i := 12) rfl)
theorem dX3_isHere_21 : decode cX3_isHere 21 = .ok (.aload_n 1, 1) := DX3_isHere (21, .aload_n 1, 1) (List.mem_of_getElem? (i := 13) rfl)
theorem dX3_isHere_22 : decode cX3_isHere 22 = .ok (.invokevirtual 66, 3) := DX3_isHere (22, .invokevirtual 66, 3) (List.mem_of_getElem? (i := 14) rfl)
theorem dX3_isHere_25 : decode cX3_isHere 25 = .ok (.if_icmp .ge 44, 3) := DX3_isHere (25, .if_icmp .ge 44, 3) (List.mem_of_getElem? (i := 15) rfl)
theorem dX3_isHere_28 : decode cX3_isHere 28 = .ok (.aload_n 0, 1) := DX3_isHere (28, .aload_n 0, 1) (List.mem_of_getElem? (i := 16) rfl)
theorem dX3_isHere_29 : decode cX3_isHere 29 = .ok (.getfield 22, 3) := DX3_isHere (29, .getfield 22, 3) (List.mem_of_getElem? (i := 17) rfl)
theorem dX3_isHere_32 : decode cX3_isHere 32 = .ok (.iload_n 2, 1) := DX3_isHere (32, .iload_n 2, 1) (List.mem_of_getElem? (i := 18) rfl)
theorem dX3_isHere_33 : decode cX3_isHere 33 = .ok (.iadd, 1) := DX3_isHere (33, .iadd, 1) (List.mem_of_getElem? (i := 19) rfl)
theorem dX3_isHere_34 : decode cX3_isHere 34 = .ok (.aload_n 0, 1) := DX3_isHere (34, .aload_n 0, 1) (List.mem_of_getElem? (i := 20) rfl)
theorem dX3_isHere_35 : decode cX3_isHere 35 = .ok (.getfield 9, 3) := DX3_isHere (35, .getfield 9, 3) (List.mem_of_getElem? (i := 21) rfl)
theorem dX3_isHere_38 : decode cX3_isHere 38 = .ok (.arraylength, 1) := DX3_isHere (38, .arraylength, 1) (List.mem_of_getElem? (i := 22) rfl)
theorem dX3_isHere_39 : decode cX3_isHere 39 = .ok (.if_icmp .ge 30, 3) := DX3_isHere (39, .if_icmp .ge 30, 3) (List.mem_of_getElem? (i := 23) rfl)
theorem dX3_isHere_42 : decode cX3_isHere 42 = .ok (.aload_n 0, 1) := DX3_isHere (42, .aload_n 0, 1) (List.mem_of_getElem? (i := 24) rfl)
theorem dX3_isHere_43 : decode cX3_isHere 43 = .ok (.getfield 9, 3) := DX3_isHere (43, .getfield 9, 3) (List.mem_of_getElem? (i := 25) rfl)
theorem dX3_isHere_46 : decode cX3_isHere 46 = .ok (.aload_n 0, 1) := DX3_isHere (46, .aload_n 0, 1) (List.mem_of_getElem? (i := 26) rfl)
theorem dX3_isHere_47 : decode cX3_isHere 47 = .ok (.getfield 22, 3) := DX3_isHere (47, .getfield 22, 3) (List.mem_of_getElem? (i := 27) rfl)
theorem dX3_isHere_50 : decode cX3_isHere 50 = .ok (.iload_n 2, 1) := DX3_isHere (50, .iload_n 2, 1) (List.mem_of_getElem? (i := 28) rfl)
theorem dX3_isHere_51 : decode cX3_isHere 51 = .ok (.iadd, 1) := DX3_isHere (51, .iadd, 1) (List.mem_of_getElem? (i := 29) rfl)
theorem dX3_isHere_52 : decode cX3_isHere 52 = .ok (.iaload, 1) := DX3_isHere (52, .iaload, 1) (List.mem_of_getElem? (i := 30) rfl)
theorem dX3_isHere_53 : decode cX3_isHere 53 = .ok (.aload_n 1, 1) := DX3_isHere (53, .aload_n 1, 1) (List.mem_of_getElem? (i := 31) rfl)
theorem dX3_isHere_54 : decode cX3_isHere 54 = .ok (.iload_n 2, 1) := DX3_isHere (54, .iload_n 2, 1) (List.mem_of_getElem? (i := 32) rfl)
theorem dX3_isHere_55 : decode cX3_isHere 55 = .ok (.invokevirtual 70, 3) := DX3_isHere (55, .invokevirtual 70, 3) (List.mem_of_getElem? (i := 33) rfl)
theorem dX3_isHere_58 : decode cX3_isHere 58 = .ok (.if_icmp .eq 5, 3) := DX3_isHere (58, .if_icmp .eq 5, 3) (List.mem_of_getElem? (i := 34) rfl)
theorem dX3_isHere_61 : decode cX3_isHere 61 = .ok (.iconst 0, 1) := DX3_isHere (61, .iconst 0, 1) (List.mem_of_getElem? (i := 35) rfl)
theorem dX3_isHere_62 : decode cX3_isHere 62 = .ok (.ireturn, 1) := DX3_isHere (62, .ireturn, 1) (List.mem_of_getElem? (i := 36) rfl)
theorem dX3_isHere_63 : decode cX3_isHere 63 = .ok (.iinc 2 1, 3) := DX3_isHere (63, .iinc 2 1, 3) (List.mem_of_getElem? (i := 37) rfl)
theorem dX3_isHere_66 : decode cX3_isHere 66 = .ok (.goto (-46), 3) := DX3_isHere (66, .goto (-46), 3) (List.mem_of_getElem? (i := 38) rfl)
theorem dX3_isHere_69 : decode cX3_isHere 69 = .ok (.iconst 1, 1) := DX3_isHere (69, .iconst 1, 1) (List.mem_of_getElem? (i := 39) rfl)
theorem dX3_isHere_70 : decode cX3_isHere 70 = .ok (.ireturn, 1) := DX3_isHere (70, .ireturn, 1) (List.mem_of_getElem? (i := 40) rfl)
set_option maxRecDepth 100000 in
theorem DX3_joinsHere : ∀ q ∈ ([(0, .aload_n 0, 1), (1, .getfield 22, 3), (4, .aload_n 0, 1), (5, .getfield 18, 3), (8, .if_icmp .lt 5, 3), (11, .iconst 0, 1), (12, .ireturn, 1), (13, .iload_n 1, 1), (14, .invokestatic 74, 3), (17, .aload_n 0, 1), (18, .getfield 9, 3), (21, .aload_n 0, 1), (22, .getfield 22, 3), (25, .iaload, 1), (26, .i2c, 1), (27, .invokevirtual 78, 3), (30, .ifCond .lt 7, 3), (33, .iconst 1, 1), (34, .goto 4, 3), (37, .iconst 0, 1), (38, .ireturn, 1)] : List (Nat × Instr × Nat)), decode cX3_joinsHere q.1 = .ok (q.2.1, q.2.2) := by decide +kernel
theorem dX3_joinsHere_0 : decode cX3_joinsHere 0 = .ok (.aload_n 0, 1) := DX3_joinsHere (0, .aload_n 0, 1) (List.mem_of_getElem? (i := 0) rfl)
theorem dX3_joinsHere_1 : decode cX3_joinsHere 1 = .ok (.getfield 22, 3) := DX3_joinsHere (1, .getfield 22, 3) (List.mem_of_getElem? (i := 1) rfl)
theorem dX3_joinsHere_4 : decode cX3_joinsHere 4 = .ok (.aload_n 0, 1) := DX3_joinsHere (4, .aload_n 0, 1) (List.mem_of_getElem? (i := 2) rfl)
theorem dX3_joinsHere_5 : decode cX3_joinsHere 5 = .ok (.getfield 18, 3) := DX3_joinsHere (5, .getfield 18, 3) (List.mem_of_getElem? (i := 3) rfl)
theorem dX3_joinsHere_8 : decode cX3_joinsHere 8 = .ok (.if_icmp .lt 5, 3) := DX3_joinsHere (8, .if_icmp .lt 5, 3) (List.mem_of_getElem? (i := 4) rfl)
theorem dX3_joinsHere_11 : decode cX3_joinsHere 11 = .ok (.iconst 0, 1) := DX3_joinsHere (11, .iconst 0, 1) (List.mem_of_getElem? (i := 5) rfl)
theorem dX3_joinsHere_12 : decode cX3_joinsHere 12 = .ok (.ireturn, 1) := DX3_joinsHere (12, .ireturn, 1) (List.mem_of_getElem? (i := 6) rfl)
theorem dX3_joinsHere_13 : decode cX3_joinsHere 13 = .ok (.iload_n 1, 1) := DX3_joinsHere (13, .iload_n 1, 1) (List.mem_of_getElem? (i := 7) rfl)
theorem dX3_joinsHere_14 : decode cX3_joinsHere 14 = .ok (.invokestatic 74, 3) := DX3_joinsHere (14, .invokestatic 74, 3) (List.mem_of_getElem? (i := 8) rfl)
theorem dX3_joinsHere_17 : decode cX3_joinsHere 17 = .ok (.aload_n 0, 1) := DX3_joinsHere (17, .aload_n 0, 1) (List.mem_of_getElem? (i := 9) rfl)
theorem dX3_joinsHere_18 : decode cX3_joinsHere 18 = .ok (.getfield 9, 3) := DX3_joinsHere (18, .getfield 9, 3) (List.mem_of_getElem? (i := 10) rfl)
theorem dX3_joinsHere_21 : decode cX3_joinsHere 21 = .ok (.aload_n 0, 1) := DX3_joinsHere (21, .aload_n 0, 1) (List.mem_of_getElem? (i := 11) rfl)
theorem dX3_joinsHere_22 : decode cX3_joinsHere 22 = .ok (.getfield 22, 3) := DX3_joinsHere (22, .getfield 22, 3) (List.mem_of_getElem? (i := 12) rfl)
theorem dX3_joinsHere_25 : decode cX3_joinsHere 25 = .ok (.iaload, 1) := DX3_joinsHere (25, .iaload, 1) (List.mem_of_getElem? (i := 13) rfl)
theorem dX3_joinsHere_26 : decode cX3_joinsHere 26 = .ok (.i2c, 1) := DX3_joinsHere (26, .i2c, 1) (List.mem_of_getElem? (i := 14) rfl)
theorem dX3_joinsHere_27 : decode cX3_joinsHere 27 = .ok (.invokevirtual 78, 3) := DX3_joinsHere (27, .invokevirtual 78, 3) (List.mem_of_getElem? (i := 15) rfl)
theorem dX3_joinsHere_30 : decode cX3_joinsHere 30 = .ok (.ifCond .lt 7, 3) := DX3_joinsHere (30, .ifCond .lt 7, 3) (List.mem_of_getElem? (i := 16) rfl)
theorem dX3_joinsHere_33 : decode cX3_joinsHere 33 = .ok (.iconst 1, 1) := DX3_joinsHere (33, .iconst 1, 1) (List.mem_of_getElem? (i := 17) rfl)
theorem dX3_joinsHere_34 : decode cX3_joinsHere 34 = .ok (.goto 4, 3) := DX3_joinsHere (34, .goto 4, 3) (List.mem_of_getElem? (i := 18) rfl)
theorem dX3_joinsHere_37 : decode cX3_joinsHere 37 = .ok (.iconst 0, 1) := DX3_joinsHere (37, .iconst 0, 1) (List.mem_of_getElem? (i := 19) rfl)
theorem dX3_joinsHere_38 : decode cX3_joinsHere 38 = .ok (.ireturn, 1) := DX3_joinsHere (38, .ireturn, 1) (List.mem_of_getElem? (i := 20) rfl)
set_option maxRecDepth 100000 in
theorem DX3_signsOf : ∀ q ∈ ([(0, .iload_n 0, 1), (1, .tableswitch 43 0 3 #[31, 34, 37, 40], 31), (32, .ldc 81, 2), (34, .areturn, 1), (35, .ldc 83, 2), (37, .areturn, 1), (38, .ldc 85, 2), (40, .areturn, 1), (41, .ldc 87, 2), (43, .areturn, 1), (44, .ldc 89, 2), (46, .areturn, 1)] : List (Nat × Instr × Nat)), decode cX3_signsOf q.1 = .ok (q.2.1, q.2.2) := by decide +kernel
theorem dX3_signsOf_0 : decode cX3_signsOf 0 = .ok (.iload_n 0, 1) := DX3_signsOf (0, .iload_n 0, 1) (List.mem_of_getElem? (i := 0) rfl)
theorem dX3_signsOf_1 : decode cX3_signsOf 1 = .ok (.tableswitch 43 0 3 #[31, 34, 37, 40], 31) := DX3_signsOf (1, .tableswitch 43 0 3 #[31, 34, 37, 40], 31) (List.mem_of_getElem? (i := 1) rfl)
theorem dX3_signsOf_32 : decode cX3_signsOf 32 = .ok (.ldc 81, 2) := DX3_signsOf (32, .ldc 81, 2) (List.mem_of_getElem? (i := 2) rfl)
theorem dX3_signsOf_34 : decode cX3_signsOf 34 = .ok (.areturn, 1) := DX3_signsOf (34, .areturn, 1) (List.mem_of_getElem? (i := 3) rfl)
theorem dX3_signsOf_35 : decode cX3_signsOf 35 = .ok (.ldc 83, 2) := DX3_signsOf (35, .ldc 83, 2) (List.mem_of_getElem? (i := 4) rfl)
theorem dX3_signsOf_37 : decode cX3_signsOf 37 = .ok (.areturn, 1) := DX3_signsOf (37, .areturn, 1) (List.mem_of_getElem? (i := 5) rfl)
theorem dX3_signsOf_38 : decode cX3_signsOf 38 = .ok (.ldc 85, 2) := DX3_signsOf (38, .ldc 85, 2) (List.mem_of_getElem? (i := 6) rfl)
theorem dX3_signsOf_40 : decode cX3_signsOf 40 = .ok (.areturn, 1) := DX3_signsOf (40, .areturn, 1) (List.mem_of_getElem? (i := 7) rfl)
theorem dX3_signsOf_41 : decode cX3_signsOf 41 = .ok (.ldc 87, 2) := DX3_signsOf (41, .ldc 87, 2) (List.mem_of_getElem? (i := 8) rfl)
theorem dX3_signsOf_43 : decode cX3_signsOf 43 = .ok (.areturn, 1) := DX3_signsOf (43, .areturn, 1) (List.mem_of_getElem? (i := 9) rfl)
theorem dX3_signsOf_44 : decode cX3_signsOf 44 = .ok (.ldc 89, 2) := DX3_signsOf (44, .ldc 89, 2) (List.mem_of_getElem? (i := 10) rfl)
theorem dX3_signsOf_46 : decode cX3_signsOf 46 = .ok (.areturn, 1) := DX3_signsOf (46, .areturn, 1) (List.mem_of_getElem? (i := 11) rfl)
set_option maxRecDepth 100000 in
theorem DX3_level : ∀ q ∈ ([(0, .iload_n 1, 1), (1, .iconst 5, 1), (2, .if_icmp .lt 10, 3), (5, .aload_n 0, 1), (6, .iload_n 2, 1), (7, .iload_n 3, 1), (8, .invokevirtual 91, 3), (11, .ireturn, 1), (12, .aload_n 0, 1), (13, .iload_n 1, 1), (14, .iconst 1, 1), (15, .iadd, 1), (16, .iload_n 2, 1), (17, .iload_n 3, 1), (18, .invokevirtual 48, 3), (21, .ifCond .ne 5, 3), (24, .iconst 0, 1), (25, .ireturn, 1), (26, .iconst 0, 1), (27, .istore 4, 2), (29, .iload 4, 2), (31, .bipush 96, 2), (33, .if_icmp .ge 61, 3), (36, .aload_n 0, 1), (37, .iload_n 1, 1), (38, .invokevirtual 95, 3), (41, .ifCond .eq 53, 3), (44, .aload_n 0, 1), (45, .getfield 9, 3), (48, .aload_n 0, 1), (49, .getfield 22, 3), (52, .iaload, 1), (53, .istore 5, 2), (55, .aload_n 0, 1), (56, .invokevirtual 41, 3), (59, .aload_n 0, 1), (60, .iload_n 1, 1), (61, .iconst 1, 1), (62, .iadd, 1), (63, .iload_n 2, 1), (64, .iload_n 3, 1), (65, .invokevirtual 48, 3), (68, .ifCond .ne 5, 3), (71, .iconst 0, 1), (72, .ireturn, 1), (73, .aload_n 0, 1), (74, .iload 5, 2), (76, .ineg, 1), (77, .invokevirtual 99, 3), (80, .iload_n 1, 1), (81, .iconst 2, 1), (82, .if_icmp .ne 6, 3), (85, .goto 9, 3), (88, .iinc 4 1, 3), (91, .goto (-62), 3), (94, .iconst 1, 1), (95, .ireturn, 1)] : List (Nat × Instr × Nat)), decode cX3_level q.1 = .ok (q.2.1, q.2.2) := by decide +kernel
theorem dX3_level_0 : decode cX3_level 0 = .ok (.iload_n 1, 1) := DX3_level (0, .iload_n 1, 1) (List.mem_of_getElem? (i := 0) rfl)
theorem dX3_level_1 : decode cX3_level 1 = .ok (.iconst 5, 1) := DX3_level (1, .iconst 5, 1) (List.mem_of_getElem? (i := 1) rfl)
theorem dX3_level_2 : decode cX3_level 2 = .ok (.if_icmp .lt 10, 3) := DX3_level (2, .if_icmp .lt 10, 3) (List.mem_of_getElem? (i := 2) rfl)
theorem dX3_level_5 : decode cX3_level 5 = .ok (.aload_n 0, 1) := DX3_level (5, .aload_n 0, 1) (List.mem_of_getElem? (i := 3) rfl)
theorem dX3_level_6 : decode cX3_level 6 = .ok (.iload_n 2, 1) := DX3_level (6, .iload_n 2, 1) (List.mem_of_getElem? (i := 4) rfl)
theorem dX3_level_7 : decode cX3_level 7 = .ok (.iload_n 3, 1) := DX3_level (7, .iload_n 3, 1) (List.mem_of_getElem? (i := 5) rfl)
theorem dX3_level_8 : decode cX3_level 8 = .ok (.invokevirtual 91, 3) := DX3_level (8, .invokevirtual 91, 3) (List.mem_of_getElem? (i := 6) rfl)
theorem dX3_level_11 : decode cX3_level 11 = .ok (.ireturn, 1) := DX3_level (11, .ireturn, 1) (List.mem_of_getElem? (i := 7) rfl)
theorem dX3_level_12 : decode cX3_level 12 = .ok (.aload_n 0, 1) := DX3_level (12, .aload_n 0, 1) (List.mem_of_getElem? (i := 8) rfl)
theorem dX3_level_13 : decode cX3_level 13 = .ok (.iload_n 1, 1) := DX3_level (13, .iload_n 1, 1) (List.mem_of_getElem? (i := 9) rfl)
theorem dX3_level_14 : decode cX3_level 14 = .ok (.iconst 1, 1) := DX3_level (14, .iconst 1, 1) (List.mem_of_getElem? (i := 10) rfl)
theorem dX3_level_15 : decode cX3_level 15 = .ok (.iadd, 1) := DX3_level (15, .iadd, 1) (List.mem_of_getElem? (i := 11) rfl)
theorem dX3_level_16 : decode cX3_level 16 = .ok (.iload_n 2, 1) := DX3_level (16, .iload_n 2, 1) (List.mem_of_getElem? (i := 12) rfl)
theorem dX3_level_17 : decode cX3_level 17 = .ok (.iload_n 3, 1) := DX3_level (17, .iload_n 3, 1) (List.mem_of_getElem? (i := 13) rfl)
theorem dX3_level_18 : decode cX3_level 18 = .ok (.invokevirtual 48, 3) := DX3_level (18, .invokevirtual 48, 3) (List.mem_of_getElem? (i := 14) rfl)
theorem dX3_level_21 : decode cX3_level 21 = .ok (.ifCond .ne 5, 3) := DX3_level (21, .ifCond .ne 5, 3) (List.mem_of_getElem? (i := 15) rfl)
theorem dX3_level_24 : decode cX3_level 24 = .ok (.iconst 0, 1) := DX3_level (24, .iconst 0, 1) (List.mem_of_getElem? (i := 16) rfl)
theorem dX3_level_25 : decode cX3_level 25 = .ok (.ireturn, 1) := DX3_level (25, .ireturn, 1) (List.mem_of_getElem? (i := 17) rfl)
theorem dX3_level_26 : decode cX3_level 26 = .ok (.iconst 0, 1) := DX3_level (26, .iconst 0, 1) (List.mem_of_getElem? (i := 18) rfl)
theorem dX3_level_27 : decode cX3_level 27 = .ok (.istore 4, 2) := DX3_level (27, .istore 4, 2) (List.mem_of_getElem? (i := 19) rfl)
theorem dX3_level_29 : decode cX3_level 29 = .ok (.iload 4, 2) := DX3_level (29, .iload 4, 2) (List.mem_of_getElem? (i := 20) rfl)
theorem dX3_level_31 : decode cX3_level 31 = .ok (.bipush 96, 2) := DX3_level (31, .bipush 96, 2) (List.mem_of_getElem? (i := 21) rfl)
theorem dX3_level_33 : decode cX3_level 33 = .ok (.if_icmp .ge 61, 3) := DX3_level (33, .if_icmp .ge 61, 3) (List.mem_of_getElem? (i := 22) rfl)
theorem dX3_level_36 : decode cX3_level 36 = .ok (.aload_n 0, 1) := DX3_level (36, .aload_n 0, 1) (List.mem_of_getElem? (i := 23) rfl)
theorem dX3_level_37 : decode cX3_level 37 = .ok (.iload_n 1, 1) := DX3_level (37, .iload_n 1, 1) (List.mem_of_getElem? (i := 24) rfl)
theorem dX3_level_38 : decode cX3_level 38 = .ok (.invokevirtual 95, 3) := DX3_level (38, .invokevirtual 95, 3) (List.mem_of_getElem? (i := 25) rfl)
theorem dX3_level_41 : decode cX3_level 41 = .ok (.ifCond .eq 53, 3) := DX3_level (41, .ifCond .eq 53, 3) (List.mem_of_getElem? (i := 26) rfl)
theorem dX3_level_44 : decode cX3_level 44 = .ok (.aload_n 0, 1) := DX3_level (44, .aload_n 0, 1) (List.mem_of_getElem? (i := 27) rfl)
theorem dX3_level_45 : decode cX3_level 45 = .ok (.getfield 9, 3) := DX3_level (45, .getfield 9, 3) (List.mem_of_getElem? (i := 28) rfl)
theorem dX3_level_48 : decode cX3_level 48 = .ok (.aload_n 0, 1) := DX3_level (48, .aload_n 0, 1) (List.mem_of_getElem? (i := 29) rfl)
theorem dX3_level_49 : decode cX3_level 49 = .ok (.getfield 22, 3) := DX3_level (49, .getfield 22, 3) (List.mem_of_getElem? (i := 30) rfl)
theorem dX3_level_52 : decode cX3_level 52 = .ok (.iaload, 1) := DX3_level (52, .iaload, 1) (List.mem_of_getElem? (i := 31) rfl)
theorem dX3_level_53 : decode cX3_level 53 = .ok (.istore 5, 2) := DX3_level (53, .istore 5, 2) (List.mem_of_getElem? (i := 32) rfl)
theorem dX3_level_55 : decode cX3_level 55 = .ok (.aload_n 0, 1) := DX3_level (55, .aload_n 0, 1) (List.mem_of_getElem? (i := 33) rfl)
theorem dX3_level_56 : decode cX3_level 56 = .ok (.invokevirtual 41, 3) := DX3_level (56, .invokevirtual 41, 3) (List.mem_of_getElem? (i := 34) rfl)
theorem dX3_level_59 : decode cX3_level 59 = .ok (.aload_n 0, 1) := DX3_level (59, .aload_n 0, 1) (List.mem_of_getElem? (i := 35) rfl)
theorem dX3_level_60 : decode cX3_level 60 = .ok (.iload_n 1, 1) := DX3_level (60, .iload_n 1, 1) (List.mem_of_getElem? (i := 36) rfl)
theorem dX3_level_61 : decode cX3_level 61 = .ok (.iconst 1, 1) := DX3_level (61, .iconst 1, 1) (List.mem_of_getElem? (i := 37) rfl)
theorem dX3_level_62 : decode cX3_level 62 = .ok (.iadd, 1) := DX3_level (62, .iadd, 1) (List.mem_of_getElem? (i := 38) rfl)
theorem dX3_level_63 : decode cX3_level 63 = .ok (.iload_n 2, 1) := DX3_level (63, .iload_n 2, 1) (List.mem_of_getElem? (i := 39) rfl)
theorem dX3_level_64 : decode cX3_level 64 = .ok (.iload_n 3, 1) := DX3_level (64, .iload_n 3, 1) (List.mem_of_getElem? (i := 40) rfl)
theorem dX3_level_65 : decode cX3_level 65 = .ok (.invokevirtual 48, 3) := DX3_level (65, .invokevirtual 48, 3) (List.mem_of_getElem? (i := 41) rfl)
theorem dX3_level_68 : decode cX3_level 68 = .ok (.ifCond .ne 5, 3) := DX3_level (68, .ifCond .ne 5, 3) (List.mem_of_getElem? (i := 42) rfl)
theorem dX3_level_71 : decode cX3_level 71 = .ok (.iconst 0, 1) := DX3_level (71, .iconst 0, 1) (List.mem_of_getElem? (i := 43) rfl)
theorem dX3_level_72 : decode cX3_level 72 = .ok (.ireturn, 1) := DX3_level (72, .ireturn, 1) (List.mem_of_getElem? (i := 44) rfl)
theorem dX3_level_73 : decode cX3_level 73 = .ok (.aload_n 0, 1) := DX3_level (73, .aload_n 0, 1) (List.mem_of_getElem? (i := 45) rfl)
theorem dX3_level_74 : decode cX3_level 74 = .ok (.iload 5, 2) := DX3_level (74, .iload 5, 2) (List.mem_of_getElem? (i := 46) rfl)
theorem dX3_level_76 : decode cX3_level 76 = .ok (.ineg, 1) := DX3_level (76, .ineg, 1) (List.mem_of_getElem? (i := 47) rfl)
theorem dX3_level_77 : decode cX3_level 77 = .ok (.invokevirtual 99, 3) := DX3_level (77, .invokevirtual 99, 3) (List.mem_of_getElem? (i := 48) rfl)
theorem dX3_level_80 : decode cX3_level 80 = .ok (.iload_n 1, 1) := DX3_level (80, .iload_n 1, 1) (List.mem_of_getElem? (i := 49) rfl)
theorem dX3_level_81 : decode cX3_level 81 = .ok (.iconst 2, 1) := DX3_level (81, .iconst 2, 1) (List.mem_of_getElem? (i := 50) rfl)
theorem dX3_level_82 : decode cX3_level 82 = .ok (.if_icmp .ne 6, 3) := DX3_level (82, .if_icmp .ne 6, 3) (List.mem_of_getElem? (i := 51) rfl)
theorem dX3_level_85 : decode cX3_level 85 = .ok (.goto 9, 3) := DX3_level (85, .goto 9, 3) (List.mem_of_getElem? (i := 52) rfl)
theorem dX3_level_88 : decode cX3_level 88 = .ok (.iinc 4 1, 3) := DX3_level (88, .iinc 4 1, 3) (List.mem_of_getElem? (i := 53) rfl)
theorem dX3_level_91 : decode cX3_level 91 = .ok (.goto (-62), 3) := DX3_level (91, .goto (-62), 3) (List.mem_of_getElem? (i := 54) rfl)
theorem dX3_level_94 : decode cX3_level 94 = .ok (.iconst 1, 1) := DX3_level (94, .iconst 1, 1) (List.mem_of_getElem? (i := 55) rfl)
theorem dX3_level_95 : decode cX3_level 95 = .ok (.ireturn, 1) := DX3_level (95, .ireturn, 1) (List.mem_of_getElem? (i := 56) rfl)
set_option maxRecDepth 100000 in
theorem DX3_piece : ∀ q ∈ ([(0, .aload_n 0, 1), (1, .getfield 22, 3), (4, .aload_n 0, 1), (5, .getfield 18, 3), (8, .if_icmp .ge 10, 3), (11, .aload_n 0, 1), (12, .getfield 28, 3), (15, .ifCond .eq 5, 3), (18, .iconst 0, 1), (19, .ireturn, 1), (20, .aload_n 0, 1), (21, .getfield 9, 3), (24, .aload_n 0, 1), (25, .getfield 22, 3), (28, .iaload, 1), (29, .bipush 33, 2), (31, .if_icmp .ne 26, 3), (34, .iload_n 2, 1), (35, .bipush 8, 2), (37, .if_icmp .ge 18, 3), (40, .aload_n 0, 1), (41, .iload_n 1, 1), (42, .iload_n 2, 1), (43, .iconst 1, 1), (44, .iadd, 1), (45, .invokevirtual 103, 3), (48, .ifCond .eq 7, 3), (51, .iconst 1, 1), (52, .goto 4, 3), (55, .iconst 0, 1), (56, .ireturn, 1), (57, .aload_n 0, 1), (58, .getfield 9, 3), (61, .aload_n 0, 1), (62, .getfield 22, 3), (65, .iaload, 1), (66, .bipush 40, 2), (68, .if_icmp .ne 26, 3), (71, .iload_n 1, 1), (72, .bipush 8, 2), (74, .if_icmp .ge 18, 3), (77, .aload_n 0, 1), (78, .iload_n 1, 1), (79, .iconst 1, 1), (80, .iadd, 1), (81, .iload_n 2, 1), (82, .invokevirtual 106, 3), (85, .ifCond .eq 7, 3), (88, .iconst 1, 1), (89, .goto 4, 3), (92, .iconst 0, 1), (93, .ireturn, 1), (94, .aload_n 0, 1), (95, .aload_n 0, 1), (96, .getfield 22, 3), (99, .invokevirtual 52, 3), (102, .iconst 3, 1), (103, .if_icmp .ne 10, 3), (106, .aload_n 0, 1), (107, .invokevirtual 109, 3), (110, .goto 7, 3), (113, .aload_n 0, 1), (114, .invokevirtual 113, 3), (117, .ireturn, 1)] : List (Nat × Instr × Nat)), decode cX3_piece q.1 = .ok (q.2.1, q.2.2) := by decide +kernel
theorem dX3_piece_0 : decode cX3_piece 0 = .ok (.aload_n 0, 1) := DX3_piece (0, .aload_n 0, 1) (List.mem_of_getElem? (i := 0) rfl)
theorem dX3_piece_1 : decode cX3_piece 1 = .ok (.getfield 22, 3) := DX3_piece (1, .getfield 22, 3) (List.mem_of_getElem? (i := 1) rfl)
theorem dX3_piece_4 : decode cX3_piece 4 = .ok (.aload_n 0, 1) := DX3_piece (4, .aload_n 0, 1) (List.mem_of_getElem? (i := 2) rfl)
theorem dX3_piece_5 : decode cX3_piece 5 = .ok (.getfield 18, 3) := DX3_piece (5, .getfield 18, 3) (List.mem_of_getElem? (i := 3) rfl)
theorem dX3_piece_8 : decode cX3_piece 8 = .ok (.if_icmp .ge 10, 3) := DX3_piece (8, .if_icmp .ge 10, 3) (List.mem_of_getElem? (i := 4) rfl)
theorem dX3_piece_11 : decode cX3_piece 11 = .ok (.aload_n 0, 1) := DX3_piece (11, .aload_n 0, 1) (List.mem_of_getElem? (i := 5) rfl)
theorem dX3_piece_12 : decode cX3_piece 12 = .ok (.getfield 28, 3) := DX3_piece (12, .getfield 28, 3) (List.mem_of_getElem? (i := 6) rfl)
theorem dX3_piece_15 : decode cX3_piece 15 = .ok (.ifCond .eq 5, 3) := DX3_piece (15, .ifCond .eq 5, 3) (List.mem_of_getElem? (i := 7) rfl)
theorem dX3_piece_18 : decode cX3_piece 18 = .ok (.iconst 0, 1) := DX3_piece (18, .iconst 0, 1) (List.mem_of_getElem? (i := 8) rfl)
theorem dX3_piece_19 : decode cX3_piece 19 = .ok (.ireturn, 1) := DX3_piece (19, .ireturn, 1) (List.mem_of_getElem? (i := 9) rfl)
theorem dX3_piece_20 : decode cX3_piece 20 = .ok (.aload_n 0, 1) := DX3_piece (20, .aload_n 0, 1) (List.mem_of_getElem? (i := 10) rfl)
theorem dX3_piece_21 : decode cX3_piece 21 = .ok (.getfield 9, 3) := DX3_piece (21, .getfield 9, 3) (List.mem_of_getElem? (i := 11) rfl)
theorem dX3_piece_24 : decode cX3_piece 24 = .ok (.aload_n 0, 1) := DX3_piece (24, .aload_n 0, 1) (List.mem_of_getElem? (i := 12) rfl)
theorem dX3_piece_25 : decode cX3_piece 25 = .ok (.getfield 22, 3) := DX3_piece (25, .getfield 22, 3) (List.mem_of_getElem? (i := 13) rfl)
theorem dX3_piece_28 : decode cX3_piece 28 = .ok (.iaload, 1) := DX3_piece (28, .iaload, 1) (List.mem_of_getElem? (i := 14) rfl)
theorem dX3_piece_29 : decode cX3_piece 29 = .ok (.bipush 33, 2) := DX3_piece (29, .bipush 33, 2) (List.mem_of_getElem? (i := 15) rfl)
theorem dX3_piece_31 : decode cX3_piece 31 = .ok (.if_icmp .ne 26, 3) := DX3_piece (31, .if_icmp .ne 26, 3) (List.mem_of_getElem? (i := 16) rfl)
theorem dX3_piece_34 : decode cX3_piece 34 = .ok (.iload_n 2, 1) := DX3_piece (34, .iload_n 2, 1) (List.mem_of_getElem? (i := 17) rfl)
theorem dX3_piece_35 : decode cX3_piece 35 = .ok (.bipush 8, 2) := DX3_piece (35, .bipush 8, 2) (List.mem_of_getElem? (i := 18) rfl)
theorem dX3_piece_37 : decode cX3_piece 37 = .ok (.if_icmp .ge 18, 3) := DX3_piece (37, .if_icmp .ge 18, 3) (List.mem_of_getElem? (i := 19) rfl)
theorem dX3_piece_40 : decode cX3_piece 40 = .ok (.aload_n 0, 1) := DX3_piece (40, .aload_n 0, 1) (List.mem_of_getElem? (i := 20) rfl)
theorem dX3_piece_41 : decode cX3_piece 41 = .ok (.iload_n 1, 1) := DX3_piece (41, .iload_n 1, 1) (List.mem_of_getElem? (i := 21) rfl)
theorem dX3_piece_42 : decode cX3_piece 42 = .ok (.iload_n 2, 1) := DX3_piece (42, .iload_n 2, 1) (List.mem_of_getElem? (i := 22) rfl)
theorem dX3_piece_43 : decode cX3_piece 43 = .ok (.iconst 1, 1) := DX3_piece (43, .iconst 1, 1) (List.mem_of_getElem? (i := 23) rfl)
theorem dX3_piece_44 : decode cX3_piece 44 = .ok (.iadd, 1) := DX3_piece (44, .iadd, 1) (List.mem_of_getElem? (i := 24) rfl)
theorem dX3_piece_45 : decode cX3_piece 45 = .ok (.invokevirtual 103, 3) := DX3_piece (45, .invokevirtual 103, 3) (List.mem_of_getElem? (i := 25) rfl)
theorem dX3_piece_48 : decode cX3_piece 48 = .ok (.ifCond .eq 7, 3) := DX3_piece (48, .ifCond .eq 7, 3) (List.mem_of_getElem? (i := 26) rfl)
theorem dX3_piece_51 : decode cX3_piece 51 = .ok (.iconst 1, 1) := DX3_piece (51, .iconst 1, 1) (List.mem_of_getElem? (i := 27) rfl)
theorem dX3_piece_52 : decode cX3_piece 52 = .ok (.goto 4, 3) := DX3_piece (52, .goto 4, 3) (List.mem_of_getElem? (i := 28) rfl)
theorem dX3_piece_55 : decode cX3_piece 55 = .ok (.iconst 0, 1) := DX3_piece (55, .iconst 0, 1) (List.mem_of_getElem? (i := 29) rfl)
theorem dX3_piece_56 : decode cX3_piece 56 = .ok (.ireturn, 1) := DX3_piece (56, .ireturn, 1) (List.mem_of_getElem? (i := 30) rfl)
theorem dX3_piece_57 : decode cX3_piece 57 = .ok (.aload_n 0, 1) := DX3_piece (57, .aload_n 0, 1) (List.mem_of_getElem? (i := 31) rfl)
theorem dX3_piece_58 : decode cX3_piece 58 = .ok (.getfield 9, 3) := DX3_piece (58, .getfield 9, 3) (List.mem_of_getElem? (i := 32) rfl)
theorem dX3_piece_61 : decode cX3_piece 61 = .ok (.aload_n 0, 1) := DX3_piece (61, .aload_n 0, 1) (List.mem_of_getElem? (i := 33) rfl)
theorem dX3_piece_62 : decode cX3_piece 62 = .ok (.getfield 22, 3) := DX3_piece (62, .getfield 22, 3) (List.mem_of_getElem? (i := 34) rfl)
theorem dX3_piece_65 : decode cX3_piece 65 = .ok (.iaload, 1) := DX3_piece (65, .iaload, 1) (List.mem_of_getElem? (i := 35) rfl)
theorem dX3_piece_66 : decode cX3_piece 66 = .ok (.bipush 40, 2) := DX3_piece (66, .bipush 40, 2) (List.mem_of_getElem? (i := 36) rfl)
theorem dX3_piece_68 : decode cX3_piece 68 = .ok (.if_icmp .ne 26, 3) := DX3_piece (68, .if_icmp .ne 26, 3) (List.mem_of_getElem? (i := 37) rfl)
theorem dX3_piece_71 : decode cX3_piece 71 = .ok (.iload_n 1, 1) := DX3_piece (71, .iload_n 1, 1) (List.mem_of_getElem? (i := 38) rfl)
theorem dX3_piece_72 : decode cX3_piece 72 = .ok (.bipush 8, 2) := DX3_piece (72, .bipush 8, 2) (List.mem_of_getElem? (i := 39) rfl)
theorem dX3_piece_74 : decode cX3_piece 74 = .ok (.if_icmp .ge 18, 3) := DX3_piece (74, .if_icmp .ge 18, 3) (List.mem_of_getElem? (i := 40) rfl)
theorem dX3_piece_77 : decode cX3_piece 77 = .ok (.aload_n 0, 1) := DX3_piece (77, .aload_n 0, 1) (List.mem_of_getElem? (i := 41) rfl)
theorem dX3_piece_78 : decode cX3_piece 78 = .ok (.iload_n 1, 1) := DX3_piece (78, .iload_n 1, 1) (List.mem_of_getElem? (i := 42) rfl)
theorem dX3_piece_79 : decode cX3_piece 79 = .ok (.iconst 1, 1) := DX3_piece (79, .iconst 1, 1) (List.mem_of_getElem? (i := 43) rfl)
theorem dX3_piece_80 : decode cX3_piece 80 = .ok (.iadd, 1) := DX3_piece (80, .iadd, 1) (List.mem_of_getElem? (i := 44) rfl)
theorem dX3_piece_81 : decode cX3_piece 81 = .ok (.iload_n 2, 1) := DX3_piece (81, .iload_n 2, 1) (List.mem_of_getElem? (i := 45) rfl)
theorem dX3_piece_82 : decode cX3_piece 82 = .ok (.invokevirtual 106, 3) := DX3_piece (82, .invokevirtual 106, 3) (List.mem_of_getElem? (i := 46) rfl)
theorem dX3_piece_85 : decode cX3_piece 85 = .ok (.ifCond .eq 7, 3) := DX3_piece (85, .ifCond .eq 7, 3) (List.mem_of_getElem? (i := 47) rfl)
theorem dX3_piece_88 : decode cX3_piece 88 = .ok (.iconst 1, 1) := DX3_piece (88, .iconst 1, 1) (List.mem_of_getElem? (i := 48) rfl)
theorem dX3_piece_89 : decode cX3_piece 89 = .ok (.goto 4, 3) := DX3_piece (89, .goto 4, 3) (List.mem_of_getElem? (i := 49) rfl)
theorem dX3_piece_92 : decode cX3_piece 92 = .ok (.iconst 0, 1) := DX3_piece (92, .iconst 0, 1) (List.mem_of_getElem? (i := 50) rfl)
theorem dX3_piece_93 : decode cX3_piece 93 = .ok (.ireturn, 1) := DX3_piece (93, .ireturn, 1) (List.mem_of_getElem? (i := 51) rfl)
theorem dX3_piece_94 : decode cX3_piece 94 = .ok (.aload_n 0, 1) := DX3_piece (94, .aload_n 0, 1) (List.mem_of_getElem? (i := 52) rfl)
theorem dX3_piece_95 : decode cX3_piece 95 = .ok (.aload_n 0, 1) := DX3_piece (95, .aload_n 0, 1) (List.mem_of_getElem? (i := 53) rfl)
theorem dX3_piece_96 : decode cX3_piece 96 = .ok (.getfield 22, 3) := DX3_piece (96, .getfield 22, 3) (List.mem_of_getElem? (i := 54) rfl)
theorem dX3_piece_99 : decode cX3_piece 99 = .ok (.invokevirtual 52, 3) := DX3_piece (99, .invokevirtual 52, 3) (List.mem_of_getElem? (i := 55) rfl)
theorem dX3_piece_102 : decode cX3_piece 102 = .ok (.iconst 3, 1) := DX3_piece (102, .iconst 3, 1) (List.mem_of_getElem? (i := 56) rfl)
theorem dX3_piece_103 : decode cX3_piece 103 = .ok (.if_icmp .ne 10, 3) := DX3_piece (103, .if_icmp .ne 10, 3) (List.mem_of_getElem? (i := 57) rfl)
theorem dX3_piece_106 : decode cX3_piece 106 = .ok (.aload_n 0, 1) := DX3_piece (106, .aload_n 0, 1) (List.mem_of_getElem? (i := 58) rfl)
theorem dX3_piece_107 : decode cX3_piece 107 = .ok (.invokevirtual 109, 3) := DX3_piece (107, .invokevirtual 109, 3) (List.mem_of_getElem? (i := 59) rfl)
theorem dX3_piece_110 : decode cX3_piece 110 = .ok (.goto 7, 3) := DX3_piece (110, .goto 7, 3) (List.mem_of_getElem? (i := 60) rfl)
theorem dX3_piece_113 : decode cX3_piece 113 = .ok (.aload_n 0, 1) := DX3_piece (113, .aload_n 0, 1) (List.mem_of_getElem? (i := 61) rfl)
theorem dX3_piece_114 : decode cX3_piece 114 = .ok (.invokevirtual 113, 3) := DX3_piece (114, .invokevirtual 113, 3) (List.mem_of_getElem? (i := 62) rfl)
theorem dX3_piece_117 : decode cX3_piece 117 = .ok (.ireturn, 1) := DX3_piece (117, .ireturn, 1) (List.mem_of_getElem? (i := 63) rfl)
set_option maxRecDepth 100000 in
theorem DX3_negated : ∀ q ∈ ([(0, .aload_n 0, 1), (1, .invokevirtual 41, 3), (4, .aload_n 0, 1), (5, .iload_n 1, 1), (6, .iload_n 2, 1), (7, .invokevirtual 91, 3), (10, .ifCond .ne 5, 3), (13, .iconst 0, 1), (14, .ireturn, 1), (15, .aload_n 0, 1), (16, .bipush (-4), 2), (18, .invokevirtual 99, 3), (21, .iconst 1, 1), (22, .ireturn, 1)] : List (Nat × Instr × Nat)), decode cX3_negated q.1 = .ok (q.2.1, q.2.2) := by decide +kernel
theorem dX3_negated_0 : decode cX3_negated 0 = .ok (.aload_n 0, 1) := DX3_negated (0, .aload_n 0, 1) (List.mem_of_getElem? (i := 0) rfl)
theorem dX3_negated_1 : decode cX3_negated 1 = .ok (.invokevirtual 41, 3) := DX3_negated (1, .invokevirtual 41, 3) (List.mem_of_getElem? (i := 1) rfl)
theorem dX3_negated_4 : decode cX3_negated 4 = .ok (.aload_n 0, 1) := DX3_negated (4, .aload_n 0, 1) (List.mem_of_getElem? (i := 2) rfl)
theorem dX3_negated_5 : decode cX3_negated 5 = .ok (.iload_n 1, 1) := DX3_negated (5, .iload_n 1, 1) (List.mem_of_getElem? (i := 3) rfl)
theorem dX3_negated_6 : decode cX3_negated 6 = .ok (.iload_n 2, 1) := DX3_negated (6, .iload_n 2, 1) (List.mem_of_getElem? (i := 4) rfl)
theorem dX3_negated_7 : decode cX3_negated 7 = .ok (.invokevirtual 91, 3) := DX3_negated (7, .invokevirtual 91, 3) (List.mem_of_getElem? (i := 5) rfl)
theorem dX3_negated_10 : decode cX3_negated 10 = .ok (.ifCond .ne 5, 3) := DX3_negated (10, .ifCond .ne 5, 3) (List.mem_of_getElem? (i := 6) rfl)
theorem dX3_negated_13 : decode cX3_negated 13 = .ok (.iconst 0, 1) := DX3_negated (13, .iconst 0, 1) (List.mem_of_getElem? (i := 7) rfl)
theorem dX3_negated_14 : decode cX3_negated 14 = .ok (.ireturn, 1) := DX3_negated (14, .ireturn, 1) (List.mem_of_getElem? (i := 8) rfl)
theorem dX3_negated_15 : decode cX3_negated 15 = .ok (.aload_n 0, 1) := DX3_negated (15, .aload_n 0, 1) (List.mem_of_getElem? (i := 9) rfl)
theorem dX3_negated_16 : decode cX3_negated 16 = .ok (.bipush (-4), 2) := DX3_negated (16, .bipush (-4), 2) (List.mem_of_getElem? (i := 10) rfl)
theorem dX3_negated_18 : decode cX3_negated 18 = .ok (.invokevirtual 99, 3) := DX3_negated (18, .invokevirtual 99, 3) (List.mem_of_getElem? (i := 11) rfl)
theorem dX3_negated_21 : decode cX3_negated 21 = .ok (.iconst 1, 1) := DX3_negated (21, .iconst 1, 1) (List.mem_of_getElem? (i := 12) rfl)
theorem dX3_negated_22 : decode cX3_negated 22 = .ok (.ireturn, 1) := DX3_negated (22, .ireturn, 1) (List.mem_of_getElem? (i := 13) rfl)
set_option maxRecDepth 100000 in
theorem DX3_enclosed : ∀ q ∈ ([(0, .aload_n 0, 1), (1, .invokevirtual 41, 3), (4, .aload_n 0, 1), (5, .iconst 0, 1), (6, .iload_n 1, 1), (7, .iload_n 2, 1), (8, .invokevirtual 48, 3), (11, .ifCond .eq 28, 3), (14, .aload_n 0, 1), (15, .getfield 22, 3), (18, .aload_n 0, 1), (19, .getfield 18, 3), (22, .if_icmp .ge 17, 3), (25, .aload_n 0, 1), (26, .getfield 9, 3), (29, .aload_n 0, 1), (30, .getfield 22, 3), (33, .iaload, 1), (34, .bipush 41, 2), (36, .if_icmp .eq 5, 3), (39, .iconst 0, 1), (40, .ireturn, 1), (41, .aload_n 0, 1), (42, .invokevirtual 41, 3), (45, .iconst 1, 1), (46, .ireturn, 1)] : List (Nat × Instr × Nat)), decode cX3_enclosed q.1 = .ok (q.2.1, q.2.2) := by decide +kernel
theorem dX3_enclosed_0 : decode cX3_enclosed 0 = .ok (.aload_n 0, 1) := DX3_enclosed (0, .aload_n 0, 1) (List.mem_of_getElem? (i := 0) rfl)
theorem dX3_enclosed_1 : decode cX3_enclosed 1 = .ok (.invokevirtual 41, 3) := DX3_enclosed (1, .invokevirtual 41, 3) (List.mem_of_getElem? (i := 1) rfl)
theorem dX3_enclosed_4 : decode cX3_enclosed 4 = .ok (.aload_n 0, 1) := DX3_enclosed (4, .aload_n 0, 1) (List.mem_of_getElem? (i := 2) rfl)
theorem dX3_enclosed_5 : decode cX3_enclosed 5 = .ok (.iconst 0, 1) := DX3_enclosed (5, .iconst 0, 1) (List.mem_of_getElem? (i := 3) rfl)
theorem dX3_enclosed_6 : decode cX3_enclosed 6 = .ok (.iload_n 1, 1) := DX3_enclosed (6, .iload_n 1, 1) (List.mem_of_getElem? (i := 4) rfl)
theorem dX3_enclosed_7 : decode cX3_enclosed 7 = .ok (.iload_n 2, 1) := DX3_enclosed (7, .iload_n 2, 1) (List.mem_of_getElem? (i := 5) rfl)
theorem dX3_enclosed_8 : decode cX3_enclosed 8 = .ok (.invokevirtual 48, 3) := DX3_enclosed (8, .invokevirtual 48, 3) (List.mem_of_getElem? (i := 6) rfl)
theorem dX3_enclosed_11 : decode cX3_enclosed 11 = .ok (.ifCond .eq 28, 3) := DX3_enclosed (11, .ifCond .eq 28, 3) (List.mem_of_getElem? (i := 7) rfl)
theorem dX3_enclosed_14 : decode cX3_enclosed 14 = .ok (.aload_n 0, 1) := DX3_enclosed (14, .aload_n 0, 1) (List.mem_of_getElem? (i := 8) rfl)
theorem dX3_enclosed_15 : decode cX3_enclosed 15 = .ok (.getfield 22, 3) := DX3_enclosed (15, .getfield 22, 3) (List.mem_of_getElem? (i := 9) rfl)
theorem dX3_enclosed_18 : decode cX3_enclosed 18 = .ok (.aload_n 0, 1) := DX3_enclosed (18, .aload_n 0, 1) (List.mem_of_getElem? (i := 10) rfl)
theorem dX3_enclosed_19 : decode cX3_enclosed 19 = .ok (.getfield 18, 3) := DX3_enclosed (19, .getfield 18, 3) (List.mem_of_getElem? (i := 11) rfl)
theorem dX3_enclosed_22 : decode cX3_enclosed 22 = .ok (.if_icmp .ge 17, 3) := DX3_enclosed (22, .if_icmp .ge 17, 3) (List.mem_of_getElem? (i := 12) rfl)
theorem dX3_enclosed_25 : decode cX3_enclosed 25 = .ok (.aload_n 0, 1) := DX3_enclosed (25, .aload_n 0, 1) (List.mem_of_getElem? (i := 13) rfl)
theorem dX3_enclosed_26 : decode cX3_enclosed 26 = .ok (.getfield 9, 3) := DX3_enclosed (26, .getfield 9, 3) (List.mem_of_getElem? (i := 14) rfl)
theorem dX3_enclosed_29 : decode cX3_enclosed 29 = .ok (.aload_n 0, 1) := DX3_enclosed (29, .aload_n 0, 1) (List.mem_of_getElem? (i := 15) rfl)
theorem dX3_enclosed_30 : decode cX3_enclosed 30 = .ok (.getfield 22, 3) := DX3_enclosed (30, .getfield 22, 3) (List.mem_of_getElem? (i := 16) rfl)
theorem dX3_enclosed_33 : decode cX3_enclosed 33 = .ok (.iaload, 1) := DX3_enclosed (33, .iaload, 1) (List.mem_of_getElem? (i := 17) rfl)
theorem dX3_enclosed_34 : decode cX3_enclosed 34 = .ok (.bipush 41, 2) := DX3_enclosed (34, .bipush 41, 2) (List.mem_of_getElem? (i := 18) rfl)
theorem dX3_enclosed_36 : decode cX3_enclosed 36 = .ok (.if_icmp .eq 5, 3) := DX3_enclosed (36, .if_icmp .eq 5, 3) (List.mem_of_getElem? (i := 19) rfl)
theorem dX3_enclosed_39 : decode cX3_enclosed 39 = .ok (.iconst 0, 1) := DX3_enclosed (39, .iconst 0, 1) (List.mem_of_getElem? (i := 20) rfl)
theorem dX3_enclosed_40 : decode cX3_enclosed 40 = .ok (.ireturn, 1) := DX3_enclosed (40, .ireturn, 1) (List.mem_of_getElem? (i := 21) rfl)
theorem dX3_enclosed_41 : decode cX3_enclosed 41 = .ok (.aload_n 0, 1) := DX3_enclosed (41, .aload_n 0, 1) (List.mem_of_getElem? (i := 22) rfl)
theorem dX3_enclosed_42 : decode cX3_enclosed 42 = .ok (.invokevirtual 41, 3) := DX3_enclosed (42, .invokevirtual 41, 3) (List.mem_of_getElem? (i := 23) rfl)
theorem dX3_enclosed_45 : decode cX3_enclosed 45 = .ok (.iconst 1, 1) := DX3_enclosed (45, .iconst 1, 1) (List.mem_of_getElem? (i := 24) rfl)
theorem dX3_enclosed_46 : decode cX3_enclosed 46 = .ok (.ireturn, 1) := DX3_enclosed (46, .ireturn, 1) (List.mem_of_getElem? (i := 25) rfl)
set_option maxRecDepth 100000 in
theorem DX3_number : ∀ q ∈ ([(0, .aload_n 0, 1), (1, .getfield 25, 3), (4, .aload_n 0, 1), (5, .getfield 22, 3), (8, .isub, 1), (9, .iconst 4, 1), (10, .if_icmp .le 5, 3), (13, .iconst 0, 1), (14, .ireturn, 1), (15, .iconst 0, 1), (16, .istore_n 1, 1), (17, .aload_n 0, 1), (18, .getfield 22, 3), (21, .istore_n 2, 1), (22, .iload_n 2, 1), (23, .aload_n 0, 1), (24, .getfield 25, 3), (27, .if_icmp .ge 24, 3), (30, .bipush 10, 2), (32, .iload_n 1, 1), (33, .imul, 1), (34, .aload_n 0, 1), (35, .getfield 9, 3), (38, .iload_n 2, 1), (39, .iaload, 1), (40, .iadd, 1), (41, .bipush 48, 2), (43, .isub, 1), (44, .istore_n 1, 1), (45, .iinc 2 1, 3), (48, .goto (-26), 3), (51, .aload_n 0, 1), (52, .iload_n 1, 1), (53, .invokevirtual 99, 3), (56, .aload_n 0, 1), (57, .dup, 1), (58, .getfield 35, 3), (61, .iconst 1, 1), (62, .iadd, 1), (63, .putfield 35, 3), (66, .aload_n 0, 1), (67, .invokevirtual 41, 3), (70, .iconst 1, 1), (71, .ireturn, 1)] : List (Nat × Instr × Nat)), decode cX3_number q.1 = .ok (q.2.1, q.2.2) := by decide +kernel
theorem dX3_number_0 : decode cX3_number 0 = .ok (.aload_n 0, 1) := DX3_number (0, .aload_n 0, 1) (List.mem_of_getElem? (i := 0) rfl)
theorem dX3_number_1 : decode cX3_number 1 = .ok (.getfield 25, 3) := DX3_number (1, .getfield 25, 3) (List.mem_of_getElem? (i := 1) rfl)
theorem dX3_number_4 : decode cX3_number 4 = .ok (.aload_n 0, 1) := DX3_number (4, .aload_n 0, 1) (List.mem_of_getElem? (i := 2) rfl)
theorem dX3_number_5 : decode cX3_number 5 = .ok (.getfield 22, 3) := DX3_number (5, .getfield 22, 3) (List.mem_of_getElem? (i := 3) rfl)
theorem dX3_number_8 : decode cX3_number 8 = .ok (.isub, 1) := DX3_number (8, .isub, 1) (List.mem_of_getElem? (i := 4) rfl)
theorem dX3_number_9 : decode cX3_number 9 = .ok (.iconst 4, 1) := DX3_number (9, .iconst 4, 1) (List.mem_of_getElem? (i := 5) rfl)
theorem dX3_number_10 : decode cX3_number 10 = .ok (.if_icmp .le 5, 3) := DX3_number (10, .if_icmp .le 5, 3) (List.mem_of_getElem? (i := 6) rfl)
theorem dX3_number_13 : decode cX3_number 13 = .ok (.iconst 0, 1) := DX3_number (13, .iconst 0, 1) (List.mem_of_getElem? (i := 7) rfl)
theorem dX3_number_14 : decode cX3_number 14 = .ok (.ireturn, 1) := DX3_number (14, .ireturn, 1) (List.mem_of_getElem? (i := 8) rfl)
theorem dX3_number_15 : decode cX3_number 15 = .ok (.iconst 0, 1) := DX3_number (15, .iconst 0, 1) (List.mem_of_getElem? (i := 9) rfl)
theorem dX3_number_16 : decode cX3_number 16 = .ok (.istore_n 1, 1) := DX3_number (16, .istore_n 1, 1) (List.mem_of_getElem? (i := 10) rfl)
theorem dX3_number_17 : decode cX3_number 17 = .ok (.aload_n 0, 1) := DX3_number (17, .aload_n 0, 1) (List.mem_of_getElem? (i := 11) rfl)
theorem dX3_number_18 : decode cX3_number 18 = .ok (.getfield 22, 3) := DX3_number (18, .getfield 22, 3) (List.mem_of_getElem? (i := 12) rfl)
theorem dX3_number_21 : decode cX3_number 21 = .ok (.istore_n 2, 1) := DX3_number (21, .istore_n 2, 1) (List.mem_of_getElem? (i := 13) rfl)
theorem dX3_number_22 : decode cX3_number 22 = .ok (.iload_n 2, 1) := DX3_number (22, .iload_n 2, 1) (List.mem_of_getElem? (i := 14) rfl)
theorem dX3_number_23 : decode cX3_number 23 = .ok (.aload_n 0, 1) := DX3_number (23, .aload_n 0, 1) (List.mem_of_getElem? (i := 15) rfl)
theorem dX3_number_24 : decode cX3_number 24 = .ok (.getfield 25, 3) := DX3_number (24, .getfield 25, 3) (List.mem_of_getElem? (i := 16) rfl)
theorem dX3_number_27 : decode cX3_number 27 = .ok (.if_icmp .ge 24, 3) := DX3_number (27, .if_icmp .ge 24, 3) (List.mem_of_getElem? (i := 17) rfl)
theorem dX3_number_30 : decode cX3_number 30 = .ok (.bipush 10, 2) := DX3_number (30, .bipush 10, 2) (List.mem_of_getElem? (i := 18) rfl)
theorem dX3_number_32 : decode cX3_number 32 = .ok (.iload_n 1, 1) := DX3_number (32, .iload_n 1, 1) (List.mem_of_getElem? (i := 19) rfl)
theorem dX3_number_33 : decode cX3_number 33 = .ok (.imul, 1) := DX3_number (33, .imul, 1) (List.mem_of_getElem? (i := 20) rfl)
theorem dX3_number_34 : decode cX3_number 34 = .ok (.aload_n 0, 1) := DX3_number (34, .aload_n 0, 1) (List.mem_of_getElem? (i := 21) rfl)
theorem dX3_number_35 : decode cX3_number 35 = .ok (.getfield 9, 3) := DX3_number (35, .getfield 9, 3) (List.mem_of_getElem? (i := 22) rfl)
theorem dX3_number_38 : decode cX3_number 38 = .ok (.iload_n 2, 1) := DX3_number (38, .iload_n 2, 1) (List.mem_of_getElem? (i := 23) rfl)
theorem dX3_number_39 : decode cX3_number 39 = .ok (.iaload, 1) := DX3_number (39, .iaload, 1) (List.mem_of_getElem? (i := 24) rfl)
theorem dX3_number_40 : decode cX3_number 40 = .ok (.iadd, 1) := DX3_number (40, .iadd, 1) (List.mem_of_getElem? (i := 25) rfl)
theorem dX3_number_41 : decode cX3_number 41 = .ok (.bipush 48, 2) := DX3_number (41, .bipush 48, 2) (List.mem_of_getElem? (i := 26) rfl)
theorem dX3_number_43 : decode cX3_number 43 = .ok (.isub, 1) := DX3_number (43, .isub, 1) (List.mem_of_getElem? (i := 27) rfl)
theorem dX3_number_44 : decode cX3_number 44 = .ok (.istore_n 1, 1) := DX3_number (44, .istore_n 1, 1) (List.mem_of_getElem? (i := 28) rfl)
theorem dX3_number_45 : decode cX3_number 45 = .ok (.iinc 2 1, 3) := DX3_number (45, .iinc 2 1, 3) (List.mem_of_getElem? (i := 29) rfl)
theorem dX3_number_48 : decode cX3_number 48 = .ok (.goto (-26), 3) := DX3_number (48, .goto (-26), 3) (List.mem_of_getElem? (i := 30) rfl)
theorem dX3_number_51 : decode cX3_number 51 = .ok (.aload_n 0, 1) := DX3_number (51, .aload_n 0, 1) (List.mem_of_getElem? (i := 31) rfl)
theorem dX3_number_52 : decode cX3_number 52 = .ok (.iload_n 1, 1) := DX3_number (52, .iload_n 1, 1) (List.mem_of_getElem? (i := 32) rfl)
theorem dX3_number_53 : decode cX3_number 53 = .ok (.invokevirtual 99, 3) := DX3_number (53, .invokevirtual 99, 3) (List.mem_of_getElem? (i := 33) rfl)
theorem dX3_number_56 : decode cX3_number 56 = .ok (.aload_n 0, 1) := DX3_number (56, .aload_n 0, 1) (List.mem_of_getElem? (i := 34) rfl)
theorem dX3_number_57 : decode cX3_number 57 = .ok (.dup, 1) := DX3_number (57, .dup, 1) (List.mem_of_getElem? (i := 35) rfl)
theorem dX3_number_58 : decode cX3_number 58 = .ok (.getfield 35, 3) := DX3_number (58, .getfield 35, 3) (List.mem_of_getElem? (i := 36) rfl)
theorem dX3_number_61 : decode cX3_number 61 = .ok (.iconst 1, 1) := DX3_number (61, .iconst 1, 1) (List.mem_of_getElem? (i := 37) rfl)
theorem dX3_number_62 : decode cX3_number 62 = .ok (.iadd, 1) := DX3_number (62, .iadd, 1) (List.mem_of_getElem? (i := 38) rfl)
theorem dX3_number_63 : decode cX3_number 63 = .ok (.putfield 35, 3) := DX3_number (63, .putfield 35, 3) (List.mem_of_getElem? (i := 39) rfl)
theorem dX3_number_66 : decode cX3_number 66 = .ok (.aload_n 0, 1) := DX3_number (66, .aload_n 0, 1) (List.mem_of_getElem? (i := 40) rfl)
theorem dX3_number_67 : decode cX3_number 67 = .ok (.invokevirtual 41, 3) := DX3_number (67, .invokevirtual 41, 3) (List.mem_of_getElem? (i := 41) rfl)
theorem dX3_number_70 : decode cX3_number 70 = .ok (.iconst 1, 1) := DX3_number (70, .iconst 1, 1) (List.mem_of_getElem? (i := 42) rfl)
theorem dX3_number_71 : decode cX3_number 71 = .ok (.ireturn, 1) := DX3_number (71, .ireturn, 1) (List.mem_of_getElem? (i := 43) rfl)
set_option maxRecDepth 100000 in
theorem DX3_name : ∀ q ∈ ([(0, .aload_n 0, 1), (1, .getfield 32, 3), (4, .ifCond .ne 8, 3), (7, .ldc 118, 2), (9, .goto 18, 3), (12, .aload_n 0, 1), (13, .getfield 32, 3), (16, .iconst 1, 1), (17, .if_icmp .ne 8, 3), (20, .ldc 120, 2), (22, .goto 5, 3), (25, .ldc 122, 2), (27, .astore_n 1, 1), (28, .aload_n 0, 1), (29, .getfield 25, 3), (32, .aload_n 0, 1), (33, .getfield 22, 3), (36, .isub, 1), (37, .iconst 1, 1), (38, .if_icmp .ne 20, 3), (41, .aload_n 1, 1), (42, .aload_n 0, 1), (43, .getfield 9, 3), (46, .aload_n 0, 1), (47, .getfield 22, 3), (50, .iaload, 1), (51, .i2c, 1), (52, .invokevirtual 78, 3), (55, .goto 4, 3), (58, .iconst (-1), 1), (59, .istore_n 2, 1), (60, .iload_n 2, 1), (61, .ifCond .ge 5, 3), (64, .iconst 0, 1), (65, .ireturn, 1), (66, .aload_n 0, 1), (67, .iconst (-1), 1), (68, .iload_n 2, 1), (69, .isub, 1), (70, .invokevirtual 99, 3), (73, .aload_n 0, 1), (74, .dup, 1), (75, .getfield 35, 3), (78, .iconst 1, 1), (79, .iadd, 1), (80, .putfield 35, 3), (83, .aload_n 0, 1), (84, .invokevirtual 41, 3), (87, .iconst 1, 1), (88, .ireturn, 1)] : List (Nat × Instr × Nat)), decode cX3_name q.1 = .ok (q.2.1, q.2.2) := by decide +kernel
theorem dX3_name_0 : decode cX3_name 0 = .ok (.aload_n 0, 1) := DX3_name (0, .aload_n 0, 1) (List.mem_of_getElem? (i := 0) rfl)
theorem dX3_name_1 : decode cX3_name 1 = .ok (.getfield 32, 3) := DX3_name (1, .getfield 32, 3) (List.mem_of_getElem? (i := 1) rfl)
theorem dX3_name_4 : decode cX3_name 4 = .ok (.ifCond .ne 8, 3) := DX3_name (4, .ifCond .ne 8, 3) (List.mem_of_getElem? (i := 2) rfl)
theorem dX3_name_7 : decode cX3_name 7 = .ok (.ldc 118, 2) := DX3_name (7, .ldc 118, 2) (List.mem_of_getElem? (i := 3) rfl)
theorem dX3_name_9 : decode cX3_name 9 = .ok (.goto 18, 3) := DX3_name (9, .goto 18, 3) (List.mem_of_getElem? (i := 4) rfl)
theorem dX3_name_12 : decode cX3_name 12 = .ok (.aload_n 0, 1) := DX3_name (12, .aload_n 0, 1) (List.mem_of_getElem? (i := 5) rfl)
theorem dX3_name_13 : decode cX3_name 13 = .ok (.getfield 32, 3) := DX3_name (13, .getfield 32, 3) (List.mem_of_getElem? (i := 6) rfl)
theorem dX3_name_16 : decode cX3_name 16 = .ok (.iconst 1, 1) := DX3_name (16, .iconst 1, 1) (List.mem_of_getElem? (i := 7) rfl)
theorem dX3_name_17 : decode cX3_name 17 = .ok (.if_icmp .ne 8, 3) := DX3_name (17, .if_icmp .ne 8, 3) (List.mem_of_getElem? (i := 8) rfl)
theorem dX3_name_20 : decode cX3_name 20 = .ok (.ldc 120, 2) := DX3_name (20, .ldc 120, 2) (List.mem_of_getElem? (i := 9) rfl)
theorem dX3_name_22 : decode cX3_name 22 = .ok (.goto 5, 3) := DX3_name (22, .goto 5, 3) (List.mem_of_getElem? (i := 10) rfl)
theorem dX3_name_25 : decode cX3_name 25 = .ok (.ldc 122, 2) := DX3_name (25, .ldc 122, 2) (List.mem_of_getElem? (i := 11) rfl)
theorem dX3_name_27 : decode cX3_name 27 = .ok (.astore_n 1, 1) := DX3_name (27, .astore_n 1, 1) (List.mem_of_getElem? (i := 12) rfl)
theorem dX3_name_28 : decode cX3_name 28 = .ok (.aload_n 0, 1) := DX3_name (28, .aload_n 0, 1) (List.mem_of_getElem? (i := 13) rfl)
theorem dX3_name_29 : decode cX3_name 29 = .ok (.getfield 25, 3) := DX3_name (29, .getfield 25, 3) (List.mem_of_getElem? (i := 14) rfl)
theorem dX3_name_32 : decode cX3_name 32 = .ok (.aload_n 0, 1) := DX3_name (32, .aload_n 0, 1) (List.mem_of_getElem? (i := 15) rfl)
theorem dX3_name_33 : decode cX3_name 33 = .ok (.getfield 22, 3) := DX3_name (33, .getfield 22, 3) (List.mem_of_getElem? (i := 16) rfl)
theorem dX3_name_36 : decode cX3_name 36 = .ok (.isub, 1) := DX3_name (36, .isub, 1) (List.mem_of_getElem? (i := 17) rfl)
theorem dX3_name_37 : decode cX3_name 37 = .ok (.iconst 1, 1) := DX3_name (37, .iconst 1, 1) (List.mem_of_getElem? (i := 18) rfl)
theorem dX3_name_38 : decode cX3_name 38 = .ok (.if_icmp .ne 20, 3) := DX3_name (38, .if_icmp .ne 20, 3) (List.mem_of_getElem? (i := 19) rfl)
theorem dX3_name_41 : decode cX3_name 41 = .ok (.aload_n 1, 1) := DX3_name (41, .aload_n 1, 1) (List.mem_of_getElem? (i := 20) rfl)
theorem dX3_name_42 : decode cX3_name 42 = .ok (.aload_n 0, 1) := DX3_name (42, .aload_n 0, 1) (List.mem_of_getElem? (i := 21) rfl)
theorem dX3_name_43 : decode cX3_name 43 = .ok (.getfield 9, 3) := DX3_name (43, .getfield 9, 3) (List.mem_of_getElem? (i := 22) rfl)
theorem dX3_name_46 : decode cX3_name 46 = .ok (.aload_n 0, 1) := DX3_name (46, .aload_n 0, 1) (List.mem_of_getElem? (i := 23) rfl)
theorem dX3_name_47 : decode cX3_name 47 = .ok (.getfield 22, 3) := DX3_name (47, .getfield 22, 3) (List.mem_of_getElem? (i := 24) rfl)
theorem dX3_name_50 : decode cX3_name 50 = .ok (.iaload, 1) := DX3_name (50, .iaload, 1) (List.mem_of_getElem? (i := 25) rfl)
theorem dX3_name_51 : decode cX3_name 51 = .ok (.i2c, 1) := DX3_name (51, .i2c, 1) (List.mem_of_getElem? (i := 26) rfl)
theorem dX3_name_52 : decode cX3_name 52 = .ok (.invokevirtual 78, 3) := DX3_name (52, .invokevirtual 78, 3) (List.mem_of_getElem? (i := 27) rfl)
theorem dX3_name_55 : decode cX3_name 55 = .ok (.goto 4, 3) := DX3_name (55, .goto 4, 3) (List.mem_of_getElem? (i := 28) rfl)
theorem dX3_name_58 : decode cX3_name 58 = .ok (.iconst (-1), 1) := DX3_name (58, .iconst (-1), 1) (List.mem_of_getElem? (i := 29) rfl)
theorem dX3_name_59 : decode cX3_name 59 = .ok (.istore_n 2, 1) := DX3_name (59, .istore_n 2, 1) (List.mem_of_getElem? (i := 30) rfl)
theorem dX3_name_60 : decode cX3_name 60 = .ok (.iload_n 2, 1) := DX3_name (60, .iload_n 2, 1) (List.mem_of_getElem? (i := 31) rfl)
theorem dX3_name_61 : decode cX3_name 61 = .ok (.ifCond .ge 5, 3) := DX3_name (61, .ifCond .ge 5, 3) (List.mem_of_getElem? (i := 32) rfl)
theorem dX3_name_64 : decode cX3_name 64 = .ok (.iconst 0, 1) := DX3_name (64, .iconst 0, 1) (List.mem_of_getElem? (i := 33) rfl)
theorem dX3_name_65 : decode cX3_name 65 = .ok (.ireturn, 1) := DX3_name (65, .ireturn, 1) (List.mem_of_getElem? (i := 34) rfl)
theorem dX3_name_66 : decode cX3_name 66 = .ok (.aload_n 0, 1) := DX3_name (66, .aload_n 0, 1) (List.mem_of_getElem? (i := 35) rfl)
theorem dX3_name_67 : decode cX3_name 67 = .ok (.iconst (-1), 1) := DX3_name (67, .iconst (-1), 1) (List.mem_of_getElem? (i := 36) rfl)
theorem dX3_name_68 : decode cX3_name 68 = .ok (.iload_n 2, 1) := DX3_name (68, .iload_n 2, 1) (List.mem_of_getElem? (i := 37) rfl)
theorem dX3_name_69 : decode cX3_name 69 = .ok (.isub, 1) := DX3_name (69, .isub, 1) (List.mem_of_getElem? (i := 38) rfl)
theorem dX3_name_70 : decode cX3_name 70 = .ok (.invokevirtual 99, 3) := DX3_name (70, .invokevirtual 99, 3) (List.mem_of_getElem? (i := 39) rfl)
theorem dX3_name_73 : decode cX3_name 73 = .ok (.aload_n 0, 1) := DX3_name (73, .aload_n 0, 1) (List.mem_of_getElem? (i := 40) rfl)
theorem dX3_name_74 : decode cX3_name 74 = .ok (.dup, 1) := DX3_name (74, .dup, 1) (List.mem_of_getElem? (i := 41) rfl)
theorem dX3_name_75 : decode cX3_name 75 = .ok (.getfield 35, 3) := DX3_name (75, .getfield 35, 3) (List.mem_of_getElem? (i := 42) rfl)
theorem dX3_name_78 : decode cX3_name 78 = .ok (.iconst 1, 1) := DX3_name (78, .iconst 1, 1) (List.mem_of_getElem? (i := 43) rfl)
theorem dX3_name_79 : decode cX3_name 79 = .ok (.iadd, 1) := DX3_name (79, .iadd, 1) (List.mem_of_getElem? (i := 44) rfl)
theorem dX3_name_80 : decode cX3_name 80 = .ok (.putfield 35, 3) := DX3_name (80, .putfield 35, 3) (List.mem_of_getElem? (i := 45) rfl)
theorem dX3_name_83 : decode cX3_name 83 = .ok (.aload_n 0, 1) := DX3_name (83, .aload_n 0, 1) (List.mem_of_getElem? (i := 46) rfl)
theorem dX3_name_84 : decode cX3_name 84 = .ok (.invokevirtual 41, 3) := DX3_name (84, .invokevirtual 41, 3) (List.mem_of_getElem? (i := 47) rfl)
theorem dX3_name_87 : decode cX3_name 87 = .ok (.iconst 1, 1) := DX3_name (87, .iconst 1, 1) (List.mem_of_getElem? (i := 48) rfl)
theorem dX3_name_88 : decode cX3_name 88 = .ok (.ireturn, 1) := DX3_name (88, .ireturn, 1) (List.mem_of_getElem? (i := 49) rfl)
set_option maxRecDepth 100000 in
theorem DX3_put : ∀ q ∈ ([(0, .aload_n 0, 1), (1, .getfield 38, 3), (4, .aload_n 0, 1), (5, .getfield 15, 3), (8, .arraylength, 1), (9, .if_icmp .ge 23, 3), (12, .aload_n 0, 1), (13, .getfield 15, 3), (16, .aload_n 0, 1), (17, .getfield 38, 3), (20, .iload_n 1, 1), (21, .iastore, 1), (22, .aload_n 0, 1), (23, .dup, 1), (24, .getfield 38, 3), (27, .iconst 1, 1), (28, .iadd, 1), (29, .putfield 38, 3), (32, .return_, 1)] : List (Nat × Instr × Nat)), decode cX3_put q.1 = .ok (q.2.1, q.2.2) := by decide +kernel
theorem dX3_put_0 : decode cX3_put 0 = .ok (.aload_n 0, 1) := DX3_put (0, .aload_n 0, 1) (List.mem_of_getElem? (i := 0) rfl)
theorem dX3_put_1 : decode cX3_put 1 = .ok (.getfield 38, 3) := DX3_put (1, .getfield 38, 3) (List.mem_of_getElem? (i := 1) rfl)
theorem dX3_put_4 : decode cX3_put 4 = .ok (.aload_n 0, 1) := DX3_put (4, .aload_n 0, 1) (List.mem_of_getElem? (i := 2) rfl)
theorem dX3_put_5 : decode cX3_put 5 = .ok (.getfield 15, 3) := DX3_put (5, .getfield 15, 3) (List.mem_of_getElem? (i := 3) rfl)
theorem dX3_put_8 : decode cX3_put 8 = .ok (.arraylength, 1) := DX3_put (8, .arraylength, 1) (List.mem_of_getElem? (i := 4) rfl)
theorem dX3_put_9 : decode cX3_put 9 = .ok (.if_icmp .ge 23, 3) := DX3_put (9, .if_icmp .ge 23, 3) (List.mem_of_getElem? (i := 5) rfl)
theorem dX3_put_12 : decode cX3_put 12 = .ok (.aload_n 0, 1) := DX3_put (12, .aload_n 0, 1) (List.mem_of_getElem? (i := 6) rfl)
theorem dX3_put_13 : decode cX3_put 13 = .ok (.getfield 15, 3) := DX3_put (13, .getfield 15, 3) (List.mem_of_getElem? (i := 7) rfl)
theorem dX3_put_16 : decode cX3_put 16 = .ok (.aload_n 0, 1) := DX3_put (16, .aload_n 0, 1) (List.mem_of_getElem? (i := 8) rfl)
theorem dX3_put_17 : decode cX3_put 17 = .ok (.getfield 38, 3) := DX3_put (17, .getfield 38, 3) (List.mem_of_getElem? (i := 9) rfl)
theorem dX3_put_20 : decode cX3_put 20 = .ok (.iload_n 1, 1) := DX3_put (20, .iload_n 1, 1) (List.mem_of_getElem? (i := 10) rfl)
theorem dX3_put_21 : decode cX3_put 21 = .ok (.iastore, 1) := DX3_put (21, .iastore, 1) (List.mem_of_getElem? (i := 11) rfl)
theorem dX3_put_22 : decode cX3_put 22 = .ok (.aload_n 0, 1) := DX3_put (22, .aload_n 0, 1) (List.mem_of_getElem? (i := 12) rfl)
theorem dX3_put_23 : decode cX3_put 23 = .ok (.dup, 1) := DX3_put (23, .dup, 1) (List.mem_of_getElem? (i := 13) rfl)
theorem dX3_put_24 : decode cX3_put 24 = .ok (.getfield 38, 3) := DX3_put (24, .getfield 38, 3) (List.mem_of_getElem? (i := 14) rfl)
theorem dX3_put_27 : decode cX3_put 27 = .ok (.iconst 1, 1) := DX3_put (27, .iconst 1, 1) (List.mem_of_getElem? (i := 15) rfl)
theorem dX3_put_28 : decode cX3_put 28 = .ok (.iadd, 1) := DX3_put (28, .iadd, 1) (List.mem_of_getElem? (i := 16) rfl)
theorem dX3_put_29 : decode cX3_put 29 = .ok (.putfield 38, 3) := DX3_put (29, .putfield 38, 3) (List.mem_of_getElem? (i := 17) rfl)
theorem dX3_put_32 : decode cX3_put 32 = .ok (.return_, 1) := DX3_put (32, .return_, 1) (List.mem_of_getElem? (i := 18) rfl)
set_option maxRecDepth 100000 in
theorem DX4_init : ∀ q ∈ ([(0, .aload_n 0, 1), (1, .invokespecial 3, 3), (4, .aload_n 0, 1), (5, .bipush 24, 2), (7, .newarray .int, 2), (9, .putfield 9, 3), (12, .aload_n 0, 1), (13, .iconst (-1), 1), (14, .putfield 15, 3), (17, .aload_n 0, 1), (18, .iconst 0, 1), (19, .putfield 19, 3), (22, .return_, 1)] : List (Nat × Instr × Nat)), decode cX4_init q.1 = .ok (q.2.1, q.2.2) := by decide +kernel
theorem dX4_init_0 : decode cX4_init 0 = .ok (.aload_n 0, 1) := DX4_init (0, .aload_n 0, 1) (List.mem_of_getElem? (i := 0) rfl)
theorem dX4_init_1 : decode cX4_init 1 = .ok (.invokespecial 3, 3) := DX4_init (1, .invokespecial 3, 3) (List.mem_of_getElem? (i := 1) rfl)
theorem dX4_init_4 : decode cX4_init 4 = .ok (.aload_n 0, 1) := DX4_init (4, .aload_n 0, 1) (List.mem_of_getElem? (i := 2) rfl)
theorem dX4_init_5 : decode cX4_init 5 = .ok (.bipush 24, 2) := DX4_init (5, .bipush 24, 2) (List.mem_of_getElem? (i := 3) rfl)
theorem dX4_init_7 : decode cX4_init 7 = .ok (.newarray .int, 2) := DX4_init (7, .newarray .int, 2) (List.mem_of_getElem? (i := 4) rfl)
theorem dX4_init_9 : decode cX4_init 9 = .ok (.putfield 9, 3) := DX4_init (9, .putfield 9, 3) (List.mem_of_getElem? (i := 5) rfl)
theorem dX4_init_12 : decode cX4_init 12 = .ok (.aload_n 0, 1) := DX4_init (12, .aload_n 0, 1) (List.mem_of_getElem? (i := 6) rfl)
theorem dX4_init_13 : decode cX4_init 13 = .ok (.iconst (-1), 1) := DX4_init (13, .iconst (-1), 1) (List.mem_of_getElem? (i := 7) rfl)
theorem dX4_init_14 : decode cX4_init 14 = .ok (.putfield 15, 3) := DX4_init (14, .putfield 15, 3) (List.mem_of_getElem? (i := 8) rfl)
theorem dX4_init_17 : decode cX4_init 17 = .ok (.aload_n 0, 1) := DX4_init (17, .aload_n 0, 1) (List.mem_of_getElem? (i := 9) rfl)
theorem dX4_init_18 : decode cX4_init 18 = .ok (.iconst 0, 1) := DX4_init (18, .iconst 0, 1) (List.mem_of_getElem? (i := 10) rfl)
theorem dX4_init_19 : decode cX4_init 19 = .ok (.putfield 19, 3) := DX4_init (19, .putfield 19, 3) (List.mem_of_getElem? (i := 11) rfl)
theorem dX4_init_22 : decode cX4_init 22 = .ok (.return_, 1) := DX4_init (22, .return_, 1) (List.mem_of_getElem? (i := 12) rfl)
set_option maxRecDepth 100000 in
theorem DX4_begin : ∀ q ∈ ([(0, .aload_n 0, 1), (1, .iload_n 1, 1), (2, .putfield 15, 3), (5, .aload_n 0, 1), (6, .iload_n 2, 1), (7, .putfield 19, 3), (10, .iconst 0, 1), (11, .istore_n 3, 1), (12, .iload_n 3, 1), (13, .bipush 24, 2), (15, .if_icmp .ge 16, 3), (18, .aload_n 0, 1), (19, .getfield 9, 3), (22, .iload_n 3, 1), (23, .iconst 0, 1), (24, .iastore, 1), (25, .iinc 3 1, 3), (28, .goto (-16), 3), (31, .return_, 1)] : List (Nat × Instr × Nat)), decode cX4_begin q.1 = .ok (q.2.1, q.2.2) := by decide +kernel
theorem dX4_begin_0 : decode cX4_begin 0 = .ok (.aload_n 0, 1) := DX4_begin (0, .aload_n 0, 1) (List.mem_of_getElem? (i := 0) rfl)
theorem dX4_begin_1 : decode cX4_begin 1 = .ok (.iload_n 1, 1) := DX4_begin (1, .iload_n 1, 1) (List.mem_of_getElem? (i := 1) rfl)
theorem dX4_begin_2 : decode cX4_begin 2 = .ok (.putfield 15, 3) := DX4_begin (2, .putfield 15, 3) (List.mem_of_getElem? (i := 2) rfl)
theorem dX4_begin_5 : decode cX4_begin 5 = .ok (.aload_n 0, 1) := DX4_begin (5, .aload_n 0, 1) (List.mem_of_getElem? (i := 3) rfl)
theorem dX4_begin_6 : decode cX4_begin 6 = .ok (.iload_n 2, 1) := DX4_begin (6, .iload_n 2, 1) (List.mem_of_getElem? (i := 4) rfl)
theorem dX4_begin_7 : decode cX4_begin 7 = .ok (.putfield 19, 3) := DX4_begin (7, .putfield 19, 3) (List.mem_of_getElem? (i := 5) rfl)
theorem dX4_begin_10 : decode cX4_begin 10 = .ok (.iconst 0, 1) := DX4_begin (10, .iconst 0, 1) (List.mem_of_getElem? (i := 6) rfl)
theorem dX4_begin_11 : decode cX4_begin 11 = .ok (.istore_n 3, 1) := DX4_begin (11, .istore_n 3, 1) (List.mem_of_getElem? (i := 7) rfl)
theorem dX4_begin_12 : decode cX4_begin 12 = .ok (.iload_n 3, 1) := DX4_begin (12, .iload_n 3, 1) (List.mem_of_getElem? (i := 8) rfl)
theorem dX4_begin_13 : decode cX4_begin 13 = .ok (.bipush 24, 2) := DX4_begin (13, .bipush 24, 2) (List.mem_of_getElem? (i := 9) rfl)
theorem dX4_begin_15 : decode cX4_begin 15 = .ok (.if_icmp .ge 16, 3) := DX4_begin (15, .if_icmp .ge 16, 3) (List.mem_of_getElem? (i := 10) rfl)
theorem dX4_begin_18 : decode cX4_begin 18 = .ok (.aload_n 0, 1) := DX4_begin (18, .aload_n 0, 1) (List.mem_of_getElem? (i := 11) rfl)
theorem dX4_begin_19 : decode cX4_begin 19 = .ok (.getfield 9, 3) := DX4_begin (19, .getfield 9, 3) (List.mem_of_getElem? (i := 12) rfl)
theorem dX4_begin_22 : decode cX4_begin 22 = .ok (.iload_n 3, 1) := DX4_begin (22, .iload_n 3, 1) (List.mem_of_getElem? (i := 13) rfl)
theorem dX4_begin_23 : decode cX4_begin 23 = .ok (.iconst 0, 1) := DX4_begin (23, .iconst 0, 1) (List.mem_of_getElem? (i := 14) rfl)
theorem dX4_begin_24 : decode cX4_begin 24 = .ok (.iastore, 1) := DX4_begin (24, .iastore, 1) (List.mem_of_getElem? (i := 15) rfl)
theorem dX4_begin_25 : decode cX4_begin 25 = .ok (.iinc 3 1, 3) := DX4_begin (25, .iinc 3 1, 3) (List.mem_of_getElem? (i := 16) rfl)
theorem dX4_begin_28 : decode cX4_begin 28 = .ok (.goto (-16), 3) := DX4_begin (28, .goto (-16), 3) (List.mem_of_getElem? (i := 17) rfl)
theorem dX4_begin_31 : decode cX4_begin 31 = .ok (.return_, 1) := DX4_begin (31, .return_, 1) (List.mem_of_getElem? (i := 18) rfl)
set_option maxRecDepth 100000 in
theorem DX4_become : ∀ q ∈ ([(0, .aload_n 0, 1), (1, .aload_n 1, 1), (2, .getfield 15, 3), (5, .putfield 15, 3), (8, .aload_n 0, 1), (9, .aload_n 1, 1), (10, .getfield 19, 3), (13, .putfield 19, 3), (16, .aload_n 1, 1), (17, .getfield 9, 3), (20, .iconst 0, 1), (21, .aload_n 0, 1), (22, .getfield 9, 3), (25, .iconst 0, 1), (26, .bipush 24, 2), (28, .invokestatic 22, 3), (31, .return_, 1)] : List (Nat × Instr × Nat)), decode cX4_become q.1 = .ok (q.2.1, q.2.2) := by decide +kernel
theorem dX4_become_0 : decode cX4_become 0 = .ok (.aload_n 0, 1) := DX4_become (0, .aload_n 0, 1) (List.mem_of_getElem? (i := 0) rfl)
theorem dX4_become_1 : decode cX4_become 1 = .ok (.aload_n 1, 1) := DX4_become (1, .aload_n 1, 1) (List.mem_of_getElem? (i := 1) rfl)
theorem dX4_become_2 : decode cX4_become 2 = .ok (.getfield 15, 3) := DX4_become (2, .getfield 15, 3) (List.mem_of_getElem? (i := 2) rfl)
theorem dX4_become_5 : decode cX4_become 5 = .ok (.putfield 15, 3) := DX4_become (5, .putfield 15, 3) (List.mem_of_getElem? (i := 3) rfl)
theorem dX4_become_8 : decode cX4_become 8 = .ok (.aload_n 0, 1) := DX4_become (8, .aload_n 0, 1) (List.mem_of_getElem? (i := 4) rfl)
theorem dX4_become_9 : decode cX4_become 9 = .ok (.aload_n 1, 1) := DX4_become (9, .aload_n 1, 1) (List.mem_of_getElem? (i := 5) rfl)
theorem dX4_become_10 : decode cX4_become 10 = .ok (.getfield 19, 3) := DX4_become (10, .getfield 19, 3) (List.mem_of_getElem? (i := 6) rfl)
theorem dX4_become_13 : decode cX4_become 13 = .ok (.putfield 19, 3) := DX4_become (13, .putfield 19, 3) (List.mem_of_getElem? (i := 7) rfl)
theorem dX4_become_16 : decode cX4_become 16 = .ok (.aload_n 1, 1) := DX4_become (16, .aload_n 1, 1) (List.mem_of_getElem? (i := 8) rfl)
theorem dX4_become_17 : decode cX4_become 17 = .ok (.getfield 9, 3) := DX4_become (17, .getfield 9, 3) (List.mem_of_getElem? (i := 9) rfl)
theorem dX4_become_20 : decode cX4_become 20 = .ok (.iconst 0, 1) := DX4_become (20, .iconst 0, 1) (List.mem_of_getElem? (i := 10) rfl)
theorem dX4_become_21 : decode cX4_become 21 = .ok (.aload_n 0, 1) := DX4_become (21, .aload_n 0, 1) (List.mem_of_getElem? (i := 11) rfl)
theorem dX4_become_22 : decode cX4_become 22 = .ok (.getfield 9, 3) := DX4_become (22, .getfield 9, 3) (List.mem_of_getElem? (i := 12) rfl)
theorem dX4_become_25 : decode cX4_become 25 = .ok (.iconst 0, 1) := DX4_become (25, .iconst 0, 1) (List.mem_of_getElem? (i := 13) rfl)
theorem dX4_become_26 : decode cX4_become 26 = .ok (.bipush 24, 2) := DX4_become (26, .bipush 24, 2) (List.mem_of_getElem? (i := 14) rfl)
theorem dX4_become_28 : decode cX4_become 28 = .ok (.invokestatic 22, 3) := DX4_become (28, .invokestatic 22, 3) (List.mem_of_getElem? (i := 15) rfl)
theorem dX4_become_31 : decode cX4_become 31 = .ok (.return_, 1) := DX4_become (31, .return_, 1) (List.mem_of_getElem? (i := 16) rfl)
set_option maxRecDepth 100000 in
theorem DX4_isMissing : ∀ q ∈ ([(0, .aload_n 0, 1), (1, .getfield 15, 3), (4, .iconst (-1), 1), (5, .if_icmp .ne 7, 3), (8, .iconst 1, 1), (9, .goto 4, 3), (12, .iconst 0, 1), (13, .ireturn, 1)] : List (Nat × Instr × Nat)), decode cX4_isMissing q.1 = .ok (q.2.1, q.2.2) := by decide +kernel
theorem dX4_isMissing_0 : decode cX4_isMissing 0 = .ok (.aload_n 0, 1) := DX4_isMissing (0, .aload_n 0, 1) (List.mem_of_getElem? (i := 0) rfl)
theorem dX4_isMissing_1 : decode cX4_isMissing 1 = .ok (.getfield 15, 3) := DX4_isMissing (1, .getfield 15, 3) (List.mem_of_getElem? (i := 1) rfl)
theorem dX4_isMissing_4 : decode cX4_isMissing 4 = .ok (.iconst (-1), 1) := DX4_isMissing (4, .iconst (-1), 1) (List.mem_of_getElem? (i := 2) rfl)
theorem dX4_isMissing_5 : decode cX4_isMissing 5 = .ok (.if_icmp .ne 7, 3) := DX4_isMissing (5, .if_icmp .ne 7, 3) (List.mem_of_getElem? (i := 3) rfl)
theorem dX4_isMissing_8 : decode cX4_isMissing 8 = .ok (.iconst 1, 1) := DX4_isMissing (8, .iconst 1, 1) (List.mem_of_getElem? (i := 4) rfl)
theorem dX4_isMissing_9 : decode cX4_isMissing 9 = .ok (.goto 4, 3) := DX4_isMissing (9, .goto 4, 3) (List.mem_of_getElem? (i := 5) rfl)
theorem dX4_isMissing_12 : decode cX4_isMissing 12 = .ok (.iconst 0, 1) := DX4_isMissing (12, .iconst 0, 1) (List.mem_of_getElem? (i := 6) rfl)
theorem dX4_isMissing_13 : decode cX4_isMissing 13 = .ok (.ireturn, 1) := DX4_isMissing (13, .ireturn, 1) (List.mem_of_getElem? (i := 7) rfl)
set_option maxRecDepth 100000 in
theorem DX4_hasNo : ∀ q ∈ ([(0, .iload_n 1, 1), (1, .ifCond .lt 11, 3), (4, .iload_n 1, 1), (5, .aload_n 0, 1), (6, .getfield 19, 3), (9, .if_icmp .lt 7, 3), (12, .iconst 1, 1), (13, .goto 4, 3), (16, .iconst 0, 1), (17, .ireturn, 1)] : List (Nat × Instr × Nat)), decode cX4_hasNo q.1 = .ok (q.2.1, q.2.2) := by decide +kernel
theorem dX4_hasNo_0 : decode cX4_hasNo 0 = .ok (.iload_n 1, 1) := DX4_hasNo (0, .iload_n 1, 1) (List.mem_of_getElem? (i := 0) rfl)
theorem dX4_hasNo_1 : decode cX4_hasNo 1 = .ok (.ifCond .lt 11, 3) := DX4_hasNo (1, .ifCond .lt 11, 3) (List.mem_of_getElem? (i := 1) rfl)
theorem dX4_hasNo_4 : decode cX4_hasNo 4 = .ok (.iload_n 1, 1) := DX4_hasNo (4, .iload_n 1, 1) (List.mem_of_getElem? (i := 2) rfl)
theorem dX4_hasNo_5 : decode cX4_hasNo 5 = .ok (.aload_n 0, 1) := DX4_hasNo (5, .aload_n 0, 1) (List.mem_of_getElem? (i := 3) rfl)
theorem dX4_hasNo_6 : decode cX4_hasNo 6 = .ok (.getfield 19, 3) := DX4_hasNo (6, .getfield 19, 3) (List.mem_of_getElem? (i := 4) rfl)
theorem dX4_hasNo_9 : decode cX4_hasNo 9 = .ok (.if_icmp .lt 7, 3) := DX4_hasNo (9, .if_icmp .lt 7, 3) (List.mem_of_getElem? (i := 5) rfl)
theorem dX4_hasNo_12 : decode cX4_hasNo 12 = .ok (.iconst 1, 1) := DX4_hasNo (12, .iconst 1, 1) (List.mem_of_getElem? (i := 6) rfl)
theorem dX4_hasNo_13 : decode cX4_hasNo 13 = .ok (.goto 4, 3) := DX4_hasNo (13, .goto 4, 3) (List.mem_of_getElem? (i := 7) rfl)
theorem dX4_hasNo_16 : decode cX4_hasNo 16 = .ok (.iconst 0, 1) := DX4_hasNo (16, .iconst 0, 1) (List.mem_of_getElem? (i := 8) rfl)
theorem dX4_hasNo_17 : decode cX4_hasNo 17 = .ok (.ireturn, 1) := DX4_hasNo (17, .ireturn, 1) (List.mem_of_getElem? (i := 9) rfl)
set_option maxRecDepth 100000 in
theorem DX4_lacks : ∀ q ∈ ([(0, .iload_n 1, 1), (1, .ifCond .lt 17, 3), (4, .iload_n 2, 1), (5, .ifCond .lt 13, 3), (8, .iload_n 1, 1), (9, .aload_n 0, 1), (10, .getfield 19, 3), (13, .iload_n 2, 1), (14, .isub, 1), (15, .if_icmp .le 7, 3), (18, .iconst 1, 1), (19, .goto 4, 3), (22, .iconst 0, 1), (23, .ireturn, 1)] : List (Nat × Instr × Nat)), decode cX4_lacks q.1 = .ok (q.2.1, q.2.2) := by decide +kernel
theorem dX4_lacks_0 : decode cX4_lacks 0 = .ok (.iload_n 1, 1) := DX4_lacks (0, .iload_n 1, 1) (List.mem_of_getElem? (i := 0) rfl)
theorem dX4_lacks_1 : decode cX4_lacks 1 = .ok (.ifCond .lt 17, 3) := DX4_lacks (1, .ifCond .lt 17, 3) (List.mem_of_getElem? (i := 1) rfl)
theorem dX4_lacks_4 : decode cX4_lacks 4 = .ok (.iload_n 2, 1) := DX4_lacks (4, .iload_n 2, 1) (List.mem_of_getElem? (i := 2) rfl)
theorem dX4_lacks_5 : decode cX4_lacks 5 = .ok (.ifCond .lt 13, 3) := DX4_lacks (5, .ifCond .lt 13, 3) (List.mem_of_getElem? (i := 3) rfl)
theorem dX4_lacks_8 : decode cX4_lacks 8 = .ok (.iload_n 1, 1) := DX4_lacks (8, .iload_n 1, 1) (List.mem_of_getElem? (i := 4) rfl)
theorem dX4_lacks_9 : decode cX4_lacks 9 = .ok (.aload_n 0, 1) := DX4_lacks (9, .aload_n 0, 1) (List.mem_of_getElem? (i := 5) rfl)
theorem dX4_lacks_10 : decode cX4_lacks 10 = .ok (.getfield 19, 3) := DX4_lacks (10, .getfield 19, 3) (List.mem_of_getElem? (i := 6) rfl)
theorem dX4_lacks_13 : decode cX4_lacks 13 = .ok (.iload_n 2, 1) := DX4_lacks (13, .iload_n 2, 1) (List.mem_of_getElem? (i := 7) rfl)
theorem dX4_lacks_14 : decode cX4_lacks 14 = .ok (.isub, 1) := DX4_lacks (14, .isub, 1) (List.mem_of_getElem? (i := 8) rfl)
theorem dX4_lacks_15 : decode cX4_lacks 15 = .ok (.if_icmp .le 7, 3) := DX4_lacks (15, .if_icmp .le 7, 3) (List.mem_of_getElem? (i := 9) rfl)
theorem dX4_lacks_18 : decode cX4_lacks 18 = .ok (.iconst 1, 1) := DX4_lacks (18, .iconst 1, 1) (List.mem_of_getElem? (i := 10) rfl)
theorem dX4_lacks_19 : decode cX4_lacks 19 = .ok (.goto 4, 3) := DX4_lacks (19, .goto 4, 3) (List.mem_of_getElem? (i := 11) rfl)
theorem dX4_lacks_22 : decode cX4_lacks 22 = .ok (.iconst 0, 1) := DX4_lacks (22, .iconst 0, 1) (List.mem_of_getElem? (i := 12) rfl)
theorem dX4_lacks_23 : decode cX4_lacks 23 = .ok (.ireturn, 1) := DX4_lacks (23, .ireturn, 1) (List.mem_of_getElem? (i := 13) rfl)
set_option maxRecDepth 100000 in
theorem DX4_isNumber : ∀ q ∈ ([(0, .aload_n 0, 1), (1, .iload_n 1, 1), (2, .invokevirtual 28, 3), (5, .ifCond .ne 18, 3), (8, .aload_n 0, 1), (9, .getfield 9, 3), (12, .iload_n 1, 1), (13, .iaload, 1), (14, .ldc 32, 2), (16, .if_icmp .eq 7, 3), (19, .iconst 1, 1), (20, .goto 4, 3), (23, .iconst 0, 1), (24, .ireturn, 1)] : List (Nat × Instr × Nat)), decode cX4_isNumber q.1 = .ok (q.2.1, q.2.2) := by decide +kernel
theorem dX4_isNumber_0 : decode cX4_isNumber 0 = .ok (.aload_n 0, 1) := DX4_isNumber (0, .aload_n 0, 1) (List.mem_of_getElem? (i := 0) rfl)
theorem dX4_isNumber_1 : decode cX4_isNumber 1 = .ok (.iload_n 1, 1) := DX4_isNumber (1, .iload_n 1, 1) (List.mem_of_getElem? (i := 1) rfl)
theorem dX4_isNumber_2 : decode cX4_isNumber 2 = .ok (.invokevirtual 28, 3) := DX4_isNumber (2, .invokevirtual 28, 3) (List.mem_of_getElem? (i := 2) rfl)
theorem dX4_isNumber_5 : decode cX4_isNumber 5 = .ok (.ifCond .ne 18, 3) := DX4_isNumber (5, .ifCond .ne 18, 3) (List.mem_of_getElem? (i := 3) rfl)
theorem dX4_isNumber_8 : decode cX4_isNumber 8 = .ok (.aload_n 0, 1) := DX4_isNumber (8, .aload_n 0, 1) (List.mem_of_getElem? (i := 4) rfl)
theorem dX4_isNumber_9 : decode cX4_isNumber 9 = .ok (.getfield 9, 3) := DX4_isNumber (9, .getfield 9, 3) (List.mem_of_getElem? (i := 5) rfl)
theorem dX4_isNumber_12 : decode cX4_isNumber 12 = .ok (.iload_n 1, 1) := DX4_isNumber (12, .iload_n 1, 1) (List.mem_of_getElem? (i := 6) rfl)
theorem dX4_isNumber_13 : decode cX4_isNumber 13 = .ok (.iaload, 1) := DX4_isNumber (13, .iaload, 1) (List.mem_of_getElem? (i := 7) rfl)
theorem dX4_isNumber_14 : decode cX4_isNumber 14 = .ok (.ldc 32, 2) := DX4_isNumber (14, .ldc 32, 2) (List.mem_of_getElem? (i := 8) rfl)
theorem dX4_isNumber_16 : decode cX4_isNumber 16 = .ok (.if_icmp .eq 7, 3) := DX4_isNumber (16, .if_icmp .eq 7, 3) (List.mem_of_getElem? (i := 9) rfl)
theorem dX4_isNumber_19 : decode cX4_isNumber 19 = .ok (.iconst 1, 1) := DX4_isNumber (19, .iconst 1, 1) (List.mem_of_getElem? (i := 10) rfl)
theorem dX4_isNumber_20 : decode cX4_isNumber 20 = .ok (.goto 4, 3) := DX4_isNumber (20, .goto 4, 3) (List.mem_of_getElem? (i := 11) rfl)
theorem dX4_isNumber_23 : decode cX4_isNumber 23 = .ok (.iconst 0, 1) := DX4_isNumber (23, .iconst 0, 1) (List.mem_of_getElem? (i := 12) rfl)
theorem dX4_isNumber_24 : decode cX4_isNumber 24 = .ok (.ireturn, 1) := DX4_isNumber (24, .ireturn, 1) (List.mem_of_getElem? (i := 13) rfl)
set_option maxRecDepth 100000 in
theorem DX5_init : ∀ q ∈ ([(0, .aload_n 0, 1), (1, .invokespecial 3, 3), (4, .aload_n 0, 1), (5, .new 9, 3), (8, .dup, 1), (9, .invokespecial 11, 3), (12, .putfield 12, 3), (15, .aload_n 0, 1), (16, .iconst 0, 1), (17, .putfield 18, 3), (20, .aload_n 0, 1), (21, .iconst 0, 1), (22, .putfield 22, 3), (25, .aload_n 0, 1), (26, .iconst 0, 1), (27, .putfield 25, 3), (30, .aload_n 0, 1), (31, .iconst 0, 1), (32, .putfield 28, 3), (35, .return_, 1)] : List (Nat × Instr × Nat)), decode cX5_init q.1 = .ok (q.2.1, q.2.2) := by decide +kernel
theorem dX5_init_0 : decode cX5_init 0 = .ok (.aload_n 0, 1) := DX5_init (0, .aload_n 0, 1) (List.mem_of_getElem? (i := 0) rfl)
theorem dX5_init_1 : decode cX5_init 1 = .ok (.invokespecial 3, 3) := DX5_init (1, .invokespecial 3, 3) (List.mem_of_getElem? (i := 1) rfl)
theorem dX5_init_4 : decode cX5_init 4 = .ok (.aload_n 0, 1) := DX5_init (4, .aload_n 0, 1) (List.mem_of_getElem? (i := 2) rfl)
theorem dX5_init_5 : decode cX5_init 5 = .ok (.new 9, 3) := DX5_init (5, .new 9, 3) (List.mem_of_getElem? (i := 3) rfl)
theorem dX5_init_8 : decode cX5_init 8 = .ok (.dup, 1) := DX5_init (8, .dup, 1) (List.mem_of_getElem? (i := 4) rfl)
theorem dX5_init_9 : decode cX5_init 9 = .ok (.invokespecial 11, 3) := DX5_init (9, .invokespecial 11, 3) (List.mem_of_getElem? (i := 5) rfl)
theorem dX5_init_12 : decode cX5_init 12 = .ok (.putfield 12, 3) := DX5_init (12, .putfield 12, 3) (List.mem_of_getElem? (i := 6) rfl)
theorem dX5_init_15 : decode cX5_init 15 = .ok (.aload_n 0, 1) := DX5_init (15, .aload_n 0, 1) (List.mem_of_getElem? (i := 7) rfl)
theorem dX5_init_16 : decode cX5_init 16 = .ok (.iconst 0, 1) := DX5_init (16, .iconst 0, 1) (List.mem_of_getElem? (i := 8) rfl)
theorem dX5_init_17 : decode cX5_init 17 = .ok (.putfield 18, 3) := DX5_init (17, .putfield 18, 3) (List.mem_of_getElem? (i := 9) rfl)
theorem dX5_init_20 : decode cX5_init 20 = .ok (.aload_n 0, 1) := DX5_init (20, .aload_n 0, 1) (List.mem_of_getElem? (i := 10) rfl)
theorem dX5_init_21 : decode cX5_init 21 = .ok (.iconst 0, 1) := DX5_init (21, .iconst 0, 1) (List.mem_of_getElem? (i := 11) rfl)
theorem dX5_init_22 : decode cX5_init 22 = .ok (.putfield 22, 3) := DX5_init (22, .putfield 22, 3) (List.mem_of_getElem? (i := 12) rfl)
theorem dX5_init_25 : decode cX5_init 25 = .ok (.aload_n 0, 1) := DX5_init (25, .aload_n 0, 1) (List.mem_of_getElem? (i := 13) rfl)
theorem dX5_init_26 : decode cX5_init 26 = .ok (.iconst 0, 1) := DX5_init (26, .iconst 0, 1) (List.mem_of_getElem? (i := 14) rfl)
theorem dX5_init_27 : decode cX5_init 27 = .ok (.putfield 25, 3) := DX5_init (27, .putfield 25, 3) (List.mem_of_getElem? (i := 15) rfl)
theorem dX5_init_30 : decode cX5_init 30 = .ok (.aload_n 0, 1) := DX5_init (30, .aload_n 0, 1) (List.mem_of_getElem? (i := 16) rfl)
theorem dX5_init_31 : decode cX5_init 31 = .ok (.iconst 0, 1) := DX5_init (31, .iconst 0, 1) (List.mem_of_getElem? (i := 17) rfl)
theorem dX5_init_32 : decode cX5_init 32 = .ok (.putfield 28, 3) := DX5_init (32, .putfield 28, 3) (List.mem_of_getElem? (i := 18) rfl)
theorem dX5_init_35 : decode cX5_init 35 = .ok (.return_, 1) := DX5_init (35, .return_, 1) (List.mem_of_getElem? (i := 19) rfl)
set_option maxRecDepth 100000 in
theorem DX5_isNot : ∀ q ∈ ([(0, .aload_n 0, 1), (1, .getfield 18, 3), (4, .ifCond .ne 6, 3), (7, .ldc 31, 2), (9, .ireturn, 1), (10, .aload_n 0, 1), (11, .getfield 18, 3), (14, .iload_n 1, 1), (15, .if_icmp .ne 7, 3), (18, .iconst 0, 1), (19, .goto 5, 3), (22, .ldc 32, 2), (24, .ireturn, 1)] : List (Nat × Instr × Nat)), decode cX5_isNot q.1 = .ok (q.2.1, q.2.2) := by decide +kernel
theorem dX5_isNot_0 : decode cX5_isNot 0 = .ok (.aload_n 0, 1) := DX5_isNot (0, .aload_n 0, 1) (List.mem_of_getElem? (i := 0) rfl)
theorem dX5_isNot_1 : decode cX5_isNot 1 = .ok (.getfield 18, 3) := DX5_isNot (1, .getfield 18, 3) (List.mem_of_getElem? (i := 1) rfl)
theorem dX5_isNot_4 : decode cX5_isNot 4 = .ok (.ifCond .ne 6, 3) := DX5_isNot (4, .ifCond .ne 6, 3) (List.mem_of_getElem? (i := 2) rfl)
theorem dX5_isNot_7 : decode cX5_isNot 7 = .ok (.ldc 31, 2) := DX5_isNot (7, .ldc 31, 2) (List.mem_of_getElem? (i := 3) rfl)
theorem dX5_isNot_9 : decode cX5_isNot 9 = .ok (.ireturn, 1) := DX5_isNot (9, .ireturn, 1) (List.mem_of_getElem? (i := 4) rfl)
theorem dX5_isNot_10 : decode cX5_isNot 10 = .ok (.aload_n 0, 1) := DX5_isNot (10, .aload_n 0, 1) (List.mem_of_getElem? (i := 5) rfl)
theorem dX5_isNot_11 : decode cX5_isNot 11 = .ok (.getfield 18, 3) := DX5_isNot (11, .getfield 18, 3) (List.mem_of_getElem? (i := 6) rfl)
theorem dX5_isNot_14 : decode cX5_isNot 14 = .ok (.iload_n 1, 1) := DX5_isNot (14, .iload_n 1, 1) (List.mem_of_getElem? (i := 7) rfl)
theorem dX5_isNot_15 : decode cX5_isNot 15 = .ok (.if_icmp .ne 7, 3) := DX5_isNot (15, .if_icmp .ne 7, 3) (List.mem_of_getElem? (i := 8) rfl)
theorem dX5_isNot_18 : decode cX5_isNot 18 = .ok (.iconst 0, 1) := DX5_isNot (18, .iconst 0, 1) (List.mem_of_getElem? (i := 9) rfl)
theorem dX5_isNot_19 : decode cX5_isNot 19 = .ok (.goto 5, 3) := DX5_isNot (19, .goto 5, 3) (List.mem_of_getElem? (i := 10) rfl)
theorem dX5_isNot_22 : decode cX5_isNot 22 = .ok (.ldc 32, 2) := DX5_isNot (22, .ldc 32, 2) (List.mem_of_getElem? (i := 11) rfl)
theorem dX5_isNot_24 : decode cX5_isNot 24 = .ok (.ireturn, 1) := DX5_isNot (24, .ireturn, 1) (List.mem_of_getElem? (i := 12) rfl)
set_option maxRecDepth 100000 in
theorem DX6_init : ∀ q ∈ ([(0, .aload_n 0, 1), (1, .invokespecial 3, 3), (4, .aload_n 0, 1), (5, .bipush 10, 2), (7, .newarray .int, 2), (9, .putfield 9, 3), (12, .aload_n 0, 1), (13, .bipush 10, 2), (15, .newarray .int, 2), (17, .putfield 15, 3), (20, .aload_n 0, 1), (21, .bipush 10, 2), (23, .newarray .int, 2), (25, .putfield 18, 3), (28, .aload_n 0, 1), (29, .bipush 10, 2), (31, .newarray .int, 2), (33, .putfield 21, 3), (36, .aload_n 0, 1), (37, .iconst 0, 1), (38, .putfield 24, 3), (41, .aload_n 0, 1), (42, .iconst 0, 1), (43, .putfield 28, 3), (46, .aload_n 0, 1), (47, .iconst 0, 1), (48, .putfield 31, 3), (51, .aload_n 0, 1), (52, .iconst 0, 1), (53, .putfield 34, 3), (56, .aload_n 0, 1), (57, .iconst 0, 1), (58, .putfield 37, 3), (61, .aload_n 0, 1), (62, .iconst 0, 1), (63, .putfield 40, 3), (66, .aload_n 0, 1), (67, .iconst 0, 1), (68, .putfield 43, 3), (71, .aload_n 0, 1), (72, .iconst 0, 1), (73, .putfield 46, 3), (76, .aload_n 0, 1), (77, .iconst 1, 1), (78, .putfield 49, 3), (81, .aload_n 0, 1), (82, .iconst 0, 1), (83, .putfield 52, 3), (86, .aload_n 0, 1), (87, .aload_n 1, 1), (88, .putfield 55, 3), (91, .return_, 1)] : List (Nat × Instr × Nat)), decode cX6_init q.1 = .ok (q.2.1, q.2.2) := by decide +kernel
theorem dX6_init_0 : decode cX6_init 0 = .ok (.aload_n 0, 1) := DX6_init (0, .aload_n 0, 1) (List.mem_of_getElem? (i := 0) rfl)
theorem dX6_init_1 : decode cX6_init 1 = .ok (.invokespecial 3, 3) := DX6_init (1, .invokespecial 3, 3) (List.mem_of_getElem? (i := 1) rfl)
theorem dX6_init_4 : decode cX6_init 4 = .ok (.aload_n 0, 1) := DX6_init (4, .aload_n 0, 1) (List.mem_of_getElem? (i := 2) rfl)
theorem dX6_init_5 : decode cX6_init 5 = .ok (.bipush 10, 2) := DX6_init (5, .bipush 10, 2) (List.mem_of_getElem? (i := 3) rfl)
theorem dX6_init_7 : decode cX6_init 7 = .ok (.newarray .int, 2) := DX6_init (7, .newarray .int, 2) (List.mem_of_getElem? (i := 4) rfl)
theorem dX6_init_9 : decode cX6_init 9 = .ok (.putfield 9, 3) := DX6_init (9, .putfield 9, 3) (List.mem_of_getElem? (i := 5) rfl)
theorem dX6_init_12 : decode cX6_init 12 = .ok (.aload_n 0, 1) := DX6_init (12, .aload_n 0, 1) (List.mem_of_getElem? (i := 6) rfl)
theorem dX6_init_13 : decode cX6_init 13 = .ok (.bipush 10, 2) := DX6_init (13, .bipush 10, 2) (List.mem_of_getElem? (i := 7) rfl)
theorem dX6_init_15 : decode cX6_init 15 = .ok (.newarray .int, 2) := DX6_init (15, .newarray .int, 2) (List.mem_of_getElem? (i := 8) rfl)
theorem dX6_init_17 : decode cX6_init 17 = .ok (.putfield 15, 3) := DX6_init (17, .putfield 15, 3) (List.mem_of_getElem? (i := 9) rfl)
theorem dX6_init_20 : decode cX6_init 20 = .ok (.aload_n 0, 1) := DX6_init (20, .aload_n 0, 1) (List.mem_of_getElem? (i := 10) rfl)
theorem dX6_init_21 : decode cX6_init 21 = .ok (.bipush 10, 2) := DX6_init (21, .bipush 10, 2) (List.mem_of_getElem? (i := 11) rfl)
theorem dX6_init_23 : decode cX6_init 23 = .ok (.newarray .int, 2) := DX6_init (23, .newarray .int, 2) (List.mem_of_getElem? (i := 12) rfl)
theorem dX6_init_25 : decode cX6_init 25 = .ok (.putfield 18, 3) := DX6_init (25, .putfield 18, 3) (List.mem_of_getElem? (i := 13) rfl)
theorem dX6_init_28 : decode cX6_init 28 = .ok (.aload_n 0, 1) := DX6_init (28, .aload_n 0, 1) (List.mem_of_getElem? (i := 14) rfl)
theorem dX6_init_29 : decode cX6_init 29 = .ok (.bipush 10, 2) := DX6_init (29, .bipush 10, 2) (List.mem_of_getElem? (i := 15) rfl)
theorem dX6_init_31 : decode cX6_init 31 = .ok (.newarray .int, 2) := DX6_init (31, .newarray .int, 2) (List.mem_of_getElem? (i := 16) rfl)
theorem dX6_init_33 : decode cX6_init 33 = .ok (.putfield 21, 3) := DX6_init (33, .putfield 21, 3) (List.mem_of_getElem? (i := 17) rfl)
theorem dX6_init_36 : decode cX6_init 36 = .ok (.aload_n 0, 1) := DX6_init (36, .aload_n 0, 1) (List.mem_of_getElem? (i := 18) rfl)
theorem dX6_init_37 : decode cX6_init 37 = .ok (.iconst 0, 1) := DX6_init (37, .iconst 0, 1) (List.mem_of_getElem? (i := 19) rfl)
theorem dX6_init_38 : decode cX6_init 38 = .ok (.putfield 24, 3) := DX6_init (38, .putfield 24, 3) (List.mem_of_getElem? (i := 20) rfl)
theorem dX6_init_41 : decode cX6_init 41 = .ok (.aload_n 0, 1) := DX6_init (41, .aload_n 0, 1) (List.mem_of_getElem? (i := 21) rfl)
theorem dX6_init_42 : decode cX6_init 42 = .ok (.iconst 0, 1) := DX6_init (42, .iconst 0, 1) (List.mem_of_getElem? (i := 22) rfl)
theorem dX6_init_43 : decode cX6_init 43 = .ok (.putfield 28, 3) := DX6_init (43, .putfield 28, 3) (List.mem_of_getElem? (i := 23) rfl)
theorem dX6_init_46 : decode cX6_init 46 = .ok (.aload_n 0, 1) := DX6_init (46, .aload_n 0, 1) (List.mem_of_getElem? (i := 24) rfl)
theorem dX6_init_47 : decode cX6_init 47 = .ok (.iconst 0, 1) := DX6_init (47, .iconst 0, 1) (List.mem_of_getElem? (i := 25) rfl)
theorem dX6_init_48 : decode cX6_init 48 = .ok (.putfield 31, 3) := DX6_init (48, .putfield 31, 3) (List.mem_of_getElem? (i := 26) rfl)
theorem dX6_init_51 : decode cX6_init 51 = .ok (.aload_n 0, 1) := DX6_init (51, .aload_n 0, 1) (List.mem_of_getElem? (i := 27) rfl)
theorem dX6_init_52 : decode cX6_init 52 = .ok (.iconst 0, 1) := DX6_init (52, .iconst 0, 1) (List.mem_of_getElem? (i := 28) rfl)
theorem dX6_init_53 : decode cX6_init 53 = .ok (.putfield 34, 3) := DX6_init (53, .putfield 34, 3) (List.mem_of_getElem? (i := 29) rfl)
theorem dX6_init_56 : decode cX6_init 56 = .ok (.aload_n 0, 1) := DX6_init (56, .aload_n 0, 1) (List.mem_of_getElem? (i := 30) rfl)
theorem dX6_init_57 : decode cX6_init 57 = .ok (.iconst 0, 1) := DX6_init (57, .iconst 0, 1) (List.mem_of_getElem? (i := 31) rfl)
theorem dX6_init_58 : decode cX6_init 58 = .ok (.putfield 37, 3) := DX6_init (58, .putfield 37, 3) (List.mem_of_getElem? (i := 32) rfl)
theorem dX6_init_61 : decode cX6_init 61 = .ok (.aload_n 0, 1) := DX6_init (61, .aload_n 0, 1) (List.mem_of_getElem? (i := 33) rfl)
theorem dX6_init_62 : decode cX6_init 62 = .ok (.iconst 0, 1) := DX6_init (62, .iconst 0, 1) (List.mem_of_getElem? (i := 34) rfl)
theorem dX6_init_63 : decode cX6_init 63 = .ok (.putfield 40, 3) := DX6_init (63, .putfield 40, 3) (List.mem_of_getElem? (i := 35) rfl)
theorem dX6_init_66 : decode cX6_init 66 = .ok (.aload_n 0, 1) := DX6_init (66, .aload_n 0, 1) (List.mem_of_getElem? (i := 36) rfl)
theorem dX6_init_67 : decode cX6_init 67 = .ok (.iconst 0, 1) := DX6_init (67, .iconst 0, 1) (List.mem_of_getElem? (i := 37) rfl)
theorem dX6_init_68 : decode cX6_init 68 = .ok (.putfield 43, 3) := DX6_init (68, .putfield 43, 3) (List.mem_of_getElem? (i := 38) rfl)
theorem dX6_init_71 : decode cX6_init 71 = .ok (.aload_n 0, 1) := DX6_init (71, .aload_n 0, 1) (List.mem_of_getElem? (i := 39) rfl)
theorem dX6_init_72 : decode cX6_init 72 = .ok (.iconst 0, 1) := DX6_init (72, .iconst 0, 1) (List.mem_of_getElem? (i := 40) rfl)
theorem dX6_init_73 : decode cX6_init 73 = .ok (.putfield 46, 3) := DX6_init (73, .putfield 46, 3) (List.mem_of_getElem? (i := 41) rfl)
theorem dX6_init_76 : decode cX6_init 76 = .ok (.aload_n 0, 1) := DX6_init (76, .aload_n 0, 1) (List.mem_of_getElem? (i := 42) rfl)
theorem dX6_init_77 : decode cX6_init 77 = .ok (.iconst 1, 1) := DX6_init (77, .iconst 1, 1) (List.mem_of_getElem? (i := 43) rfl)
theorem dX6_init_78 : decode cX6_init 78 = .ok (.putfield 49, 3) := DX6_init (78, .putfield 49, 3) (List.mem_of_getElem? (i := 44) rfl)
theorem dX6_init_81 : decode cX6_init 81 = .ok (.aload_n 0, 1) := DX6_init (81, .aload_n 0, 1) (List.mem_of_getElem? (i := 45) rfl)
theorem dX6_init_82 : decode cX6_init 82 = .ok (.iconst 0, 1) := DX6_init (82, .iconst 0, 1) (List.mem_of_getElem? (i := 46) rfl)
theorem dX6_init_83 : decode cX6_init 83 = .ok (.putfield 52, 3) := DX6_init (83, .putfield 52, 3) (List.mem_of_getElem? (i := 47) rfl)
theorem dX6_init_86 : decode cX6_init 86 = .ok (.aload_n 0, 1) := DX6_init (86, .aload_n 0, 1) (List.mem_of_getElem? (i := 48) rfl)
theorem dX6_init_87 : decode cX6_init 87 = .ok (.aload_n 1, 1) := DX6_init (87, .aload_n 1, 1) (List.mem_of_getElem? (i := 49) rfl)
theorem dX6_init_88 : decode cX6_init 88 = .ok (.putfield 55, 3) := DX6_init (88, .putfield 55, 3) (List.mem_of_getElem? (i := 50) rfl)
theorem dX6_init_91 : decode cX6_init 91 = .ok (.return_, 1) := DX6_init (91, .return_, 1) (List.mem_of_getElem? (i := 51) rfl)
set_option maxRecDepth 100000 in
theorem DX6_become : ∀ q ∈ ([(0, .aload_n 1, 1), (1, .getfield 9, 3), (4, .iconst 0, 1), (5, .aload_n 0, 1), (6, .getfield 9, 3), (9, .iconst 0, 1), (10, .bipush 10, 2), (12, .invokestatic 59, 3), (15, .aload_n 1, 1), (16, .getfield 15, 3), (19, .iconst 0, 1), (20, .aload_n 0, 1), (21, .getfield 15, 3), (24, .iconst 0, 1), (25, .bipush 10, 2), (27, .invokestatic 59, 3), (30, .aload_n 1, 1), (31, .getfield 18, 3), (34, .iconst 0, 1), (35, .aload_n 0, 1), (36, .getfield 18, 3), (39, .iconst 0, 1), (40, .bipush 10, 2), (42, .invokestatic 59, 3), (45, .aload_n 1, 1), (46, .getfield 21, 3), (49, .iconst 0, 1), (50, .aload_n 0, 1), (51, .getfield 21, 3), (54, .iconst 0, 1), (55, .bipush 10, 2), (57, .invokestatic 59, 3), (60, .aload_n 0, 1), (61, .aload_n 1, 1), (62, .getfield 24, 3), (65, .putfield 24, 3), (68, .aload_n 0, 1), (69, .aload_n 1, 1), (70, .getfield 28, 3), (73, .putfield 28, 3), (76, .aload_n 0, 1), (77, .aload_n 1, 1), (78, .getfield 31, 3), (81, .putfield 31, 3), (84, .aload_n 0, 1), (85, .aload_n 1, 1), (86, .getfield 34, 3), (89, .putfield 34, 3), (92, .aload_n 0, 1), (93, .aload_n 1, 1), (94, .getfield 37, 3), (97, .putfield 37, 3), (100, .aload_n 0, 1), (101, .aload_n 1, 1), (102, .getfield 40, 3), (105, .putfield 40, 3), (108, .aload_n 0, 1), (109, .aload_n 1, 1), (110, .getfield 43, 3), (113, .putfield 43, 3), (116, .aload_n 0, 1), (117, .aload_n 1, 1), (118, .getfield 46, 3), (121, .putfield 46, 3), (124, .aload_n 0, 1), (125, .aload_n 1, 1), (126, .getfield 49, 3), (129, .putfield 49, 3), (132, .aload_n 0, 1), (133, .aload_n 1, 1), (134, .getfield 52, 3), (137, .putfield 52, 3), (140, .return_, 1)] : List (Nat × Instr × Nat)), decode cX6_become q.1 = .ok (q.2.1, q.2.2) := by decide +kernel
theorem dX6_become_0 : decode cX6_become 0 = .ok (.aload_n 1, 1) := DX6_become (0, .aload_n 1, 1) (List.mem_of_getElem? (i := 0) rfl)
theorem dX6_become_1 : decode cX6_become 1 = .ok (.getfield 9, 3) := DX6_become (1, .getfield 9, 3) (List.mem_of_getElem? (i := 1) rfl)
theorem dX6_become_4 : decode cX6_become 4 = .ok (.iconst 0, 1) := DX6_become (4, .iconst 0, 1) (List.mem_of_getElem? (i := 2) rfl)
theorem dX6_become_5 : decode cX6_become 5 = .ok (.aload_n 0, 1) := DX6_become (5, .aload_n 0, 1) (List.mem_of_getElem? (i := 3) rfl)
theorem dX6_become_6 : decode cX6_become 6 = .ok (.getfield 9, 3) := DX6_become (6, .getfield 9, 3) (List.mem_of_getElem? (i := 4) rfl)
theorem dX6_become_9 : decode cX6_become 9 = .ok (.iconst 0, 1) := DX6_become (9, .iconst 0, 1) (List.mem_of_getElem? (i := 5) rfl)
theorem dX6_become_10 : decode cX6_become 10 = .ok (.bipush 10, 2) := DX6_become (10, .bipush 10, 2) (List.mem_of_getElem? (i := 6) rfl)
theorem dX6_become_12 : decode cX6_become 12 = .ok (.invokestatic 59, 3) := DX6_become (12, .invokestatic 59, 3) (List.mem_of_getElem? (i := 7) rfl)
theorem dX6_become_15 : decode cX6_become 15 = .ok (.aload_n 1, 1) := DX6_become (15, .aload_n 1, 1) (List.mem_of_getElem? (i := 8) rfl)
theorem dX6_become_16 : decode cX6_become 16 = .ok (.getfield 15, 3) := DX6_become (16, .getfield 15, 3) (List.mem_of_getElem? (i := 9) rfl)
theorem dX6_become_19 : decode cX6_become 19 = .ok (.iconst 0, 1) := DX6_become (19, .iconst 0, 1) (List.mem_of_getElem? (i := 10) rfl)
theorem dX6_become_20 : decode cX6_become 20 = .ok (.aload_n 0, 1) := DX6_become (20, .aload_n 0, 1) (List.mem_of_getElem? (i := 11) rfl)
theorem dX6_become_21 : decode cX6_become 21 = .ok (.getfield 15, 3) := DX6_become (21, .getfield 15, 3) (List.mem_of_getElem? (i := 12) rfl)
theorem dX6_become_24 : decode cX6_become 24 = .ok (.iconst 0, 1) := DX6_become (24, .iconst 0, 1) (List.mem_of_getElem? (i := 13) rfl)
theorem dX6_become_25 : decode cX6_become 25 = .ok (.bipush 10, 2) := DX6_become (25, .bipush 10, 2) (List.mem_of_getElem? (i := 14) rfl)
theorem dX6_become_27 : decode cX6_become 27 = .ok (.invokestatic 59, 3) := DX6_become (27, .invokestatic 59, 3) (List.mem_of_getElem? (i := 15) rfl)
theorem dX6_become_30 : decode cX6_become 30 = .ok (.aload_n 1, 1) := DX6_become (30, .aload_n 1, 1) (List.mem_of_getElem? (i := 16) rfl)
theorem dX6_become_31 : decode cX6_become 31 = .ok (.getfield 18, 3) := DX6_become (31, .getfield 18, 3) (List.mem_of_getElem? (i := 17) rfl)
theorem dX6_become_34 : decode cX6_become 34 = .ok (.iconst 0, 1) := DX6_become (34, .iconst 0, 1) (List.mem_of_getElem? (i := 18) rfl)
theorem dX6_become_35 : decode cX6_become 35 = .ok (.aload_n 0, 1) := DX6_become (35, .aload_n 0, 1) (List.mem_of_getElem? (i := 19) rfl)
theorem dX6_become_36 : decode cX6_become 36 = .ok (.getfield 18, 3) := DX6_become (36, .getfield 18, 3) (List.mem_of_getElem? (i := 20) rfl)
theorem dX6_become_39 : decode cX6_become 39 = .ok (.iconst 0, 1) := DX6_become (39, .iconst 0, 1) (List.mem_of_getElem? (i := 21) rfl)
theorem dX6_become_40 : decode cX6_become 40 = .ok (.bipush 10, 2) := DX6_become (40, .bipush 10, 2) (List.mem_of_getElem? (i := 22) rfl)
theorem dX6_become_42 : decode cX6_become 42 = .ok (.invokestatic 59, 3) := DX6_become (42, .invokestatic 59, 3) (List.mem_of_getElem? (i := 23) rfl)
theorem dX6_become_45 : decode cX6_become 45 = .ok (.aload_n 1, 1) := DX6_become (45, .aload_n 1, 1) (List.mem_of_getElem? (i := 24) rfl)
theorem dX6_become_46 : decode cX6_become 46 = .ok (.getfield 21, 3) := DX6_become (46, .getfield 21, 3) (List.mem_of_getElem? (i := 25) rfl)
theorem dX6_become_49 : decode cX6_become 49 = .ok (.iconst 0, 1) := DX6_become (49, .iconst 0, 1) (List.mem_of_getElem? (i := 26) rfl)
theorem dX6_become_50 : decode cX6_become 50 = .ok (.aload_n 0, 1) := DX6_become (50, .aload_n 0, 1) (List.mem_of_getElem? (i := 27) rfl)
theorem dX6_become_51 : decode cX6_become 51 = .ok (.getfield 21, 3) := DX6_become (51, .getfield 21, 3) (List.mem_of_getElem? (i := 28) rfl)
theorem dX6_become_54 : decode cX6_become 54 = .ok (.iconst 0, 1) := DX6_become (54, .iconst 0, 1) (List.mem_of_getElem? (i := 29) rfl)
theorem dX6_become_55 : decode cX6_become 55 = .ok (.bipush 10, 2) := DX6_become (55, .bipush 10, 2) (List.mem_of_getElem? (i := 30) rfl)
theorem dX6_become_57 : decode cX6_become 57 = .ok (.invokestatic 59, 3) := DX6_become (57, .invokestatic 59, 3) (List.mem_of_getElem? (i := 31) rfl)
theorem dX6_become_60 : decode cX6_become 60 = .ok (.aload_n 0, 1) := DX6_become (60, .aload_n 0, 1) (List.mem_of_getElem? (i := 32) rfl)
theorem dX6_become_61 : decode cX6_become 61 = .ok (.aload_n 1, 1) := DX6_become (61, .aload_n 1, 1) (List.mem_of_getElem? (i := 33) rfl)
theorem dX6_become_62 : decode cX6_become 62 = .ok (.getfield 24, 3) := DX6_become (62, .getfield 24, 3) (List.mem_of_getElem? (i := 34) rfl)
theorem dX6_become_65 : decode cX6_become 65 = .ok (.putfield 24, 3) := DX6_become (65, .putfield 24, 3) (List.mem_of_getElem? (i := 35) rfl)
theorem dX6_become_68 : decode cX6_become 68 = .ok (.aload_n 0, 1) := DX6_become (68, .aload_n 0, 1) (List.mem_of_getElem? (i := 36) rfl)
theorem dX6_become_69 : decode cX6_become 69 = .ok (.aload_n 1, 1) := DX6_become (69, .aload_n 1, 1) (List.mem_of_getElem? (i := 37) rfl)
theorem dX6_become_70 : decode cX6_become 70 = .ok (.getfield 28, 3) := DX6_become (70, .getfield 28, 3) (List.mem_of_getElem? (i := 38) rfl)
theorem dX6_become_73 : decode cX6_become 73 = .ok (.putfield 28, 3) := DX6_become (73, .putfield 28, 3) (List.mem_of_getElem? (i := 39) rfl)
theorem dX6_become_76 : decode cX6_become 76 = .ok (.aload_n 0, 1) := DX6_become (76, .aload_n 0, 1) (List.mem_of_getElem? (i := 40) rfl)
theorem dX6_become_77 : decode cX6_become 77 = .ok (.aload_n 1, 1) := DX6_become (77, .aload_n 1, 1) (List.mem_of_getElem? (i := 41) rfl)
theorem dX6_become_78 : decode cX6_become 78 = .ok (.getfield 31, 3) := DX6_become (78, .getfield 31, 3) (List.mem_of_getElem? (i := 42) rfl)
theorem dX6_become_81 : decode cX6_become 81 = .ok (.putfield 31, 3) := DX6_become (81, .putfield 31, 3) (List.mem_of_getElem? (i := 43) rfl)
theorem dX6_become_84 : decode cX6_become 84 = .ok (.aload_n 0, 1) := DX6_become (84, .aload_n 0, 1) (List.mem_of_getElem? (i := 44) rfl)
theorem dX6_become_85 : decode cX6_become 85 = .ok (.aload_n 1, 1) := DX6_become (85, .aload_n 1, 1) (List.mem_of_getElem? (i := 45) rfl)
theorem dX6_become_86 : decode cX6_become 86 = .ok (.getfield 34, 3) := DX6_become (86, .getfield 34, 3) (List.mem_of_getElem? (i := 46) rfl)
theorem dX6_become_89 : decode cX6_become 89 = .ok (.putfield 34, 3) := DX6_become (89, .putfield 34, 3) (List.mem_of_getElem? (i := 47) rfl)
theorem dX6_become_92 : decode cX6_become 92 = .ok (.aload_n 0, 1) := DX6_become (92, .aload_n 0, 1) (List.mem_of_getElem? (i := 48) rfl)
theorem dX6_become_93 : decode cX6_become 93 = .ok (.aload_n 1, 1) := DX6_become (93, .aload_n 1, 1) (List.mem_of_getElem? (i := 49) rfl)
theorem dX6_become_94 : decode cX6_become 94 = .ok (.getfield 37, 3) := DX6_become (94, .getfield 37, 3) (List.mem_of_getElem? (i := 50) rfl)
theorem dX6_become_97 : decode cX6_become 97 = .ok (.putfield 37, 3) := DX6_become (97, .putfield 37, 3) (List.mem_of_getElem? (i := 51) rfl)
theorem dX6_become_100 : decode cX6_become 100 = .ok (.aload_n 0, 1) := DX6_become (100, .aload_n 0, 1) (List.mem_of_getElem? (i := 52) rfl)
theorem dX6_become_101 : decode cX6_become 101 = .ok (.aload_n 1, 1) := DX6_become (101, .aload_n 1, 1) (List.mem_of_getElem? (i := 53) rfl)
theorem dX6_become_102 : decode cX6_become 102 = .ok (.getfield 40, 3) := DX6_become (102, .getfield 40, 3) (List.mem_of_getElem? (i := 54) rfl)
theorem dX6_become_105 : decode cX6_become 105 = .ok (.putfield 40, 3) := DX6_become (105, .putfield 40, 3) (List.mem_of_getElem? (i := 55) rfl)
theorem dX6_become_108 : decode cX6_become 108 = .ok (.aload_n 0, 1) := DX6_become (108, .aload_n 0, 1) (List.mem_of_getElem? (i := 56) rfl)
theorem dX6_become_109 : decode cX6_become 109 = .ok (.aload_n 1, 1) := DX6_become (109, .aload_n 1, 1) (List.mem_of_getElem? (i := 57) rfl)
theorem dX6_become_110 : decode cX6_become 110 = .ok (.getfield 43, 3) := DX6_become (110, .getfield 43, 3) (List.mem_of_getElem? (i := 58) rfl)
theorem dX6_become_113 : decode cX6_become 113 = .ok (.putfield 43, 3) := DX6_become (113, .putfield 43, 3) (List.mem_of_getElem? (i := 59) rfl)
theorem dX6_become_116 : decode cX6_become 116 = .ok (.aload_n 0, 1) := DX6_become (116, .aload_n 0, 1) (List.mem_of_getElem? (i := 60) rfl)
theorem dX6_become_117 : decode cX6_become 117 = .ok (.aload_n 1, 1) := DX6_become (117, .aload_n 1, 1) (List.mem_of_getElem? (i := 61) rfl)
theorem dX6_become_118 : decode cX6_become 118 = .ok (.getfield 46, 3) := DX6_become (118, .getfield 46, 3) (List.mem_of_getElem? (i := 62) rfl)
theorem dX6_become_121 : decode cX6_become 121 = .ok (.putfield 46, 3) := DX6_become (121, .putfield 46, 3) (List.mem_of_getElem? (i := 63) rfl)
theorem dX6_become_124 : decode cX6_become 124 = .ok (.aload_n 0, 1) := DX6_become (124, .aload_n 0, 1) (List.mem_of_getElem? (i := 64) rfl)
theorem dX6_become_125 : decode cX6_become 125 = .ok (.aload_n 1, 1) := DX6_become (125, .aload_n 1, 1) (List.mem_of_getElem? (i := 65) rfl)
theorem dX6_become_126 : decode cX6_become 126 = .ok (.getfield 49, 3) := DX6_become (126, .getfield 49, 3) (List.mem_of_getElem? (i := 66) rfl)
theorem dX6_become_129 : decode cX6_become 129 = .ok (.putfield 49, 3) := DX6_become (129, .putfield 49, 3) (List.mem_of_getElem? (i := 67) rfl)
theorem dX6_become_132 : decode cX6_become 132 = .ok (.aload_n 0, 1) := DX6_become (132, .aload_n 0, 1) (List.mem_of_getElem? (i := 68) rfl)
theorem dX6_become_133 : decode cX6_become 133 = .ok (.aload_n 1, 1) := DX6_become (133, .aload_n 1, 1) (List.mem_of_getElem? (i := 69) rfl)
theorem dX6_become_134 : decode cX6_become 134 = .ok (.getfield 52, 3) := DX6_become (134, .getfield 52, 3) (List.mem_of_getElem? (i := 70) rfl)
theorem dX6_become_137 : decode cX6_become 137 = .ok (.putfield 52, 3) := DX6_become (137, .putfield 52, 3) (List.mem_of_getElem? (i := 71) rfl)
theorem dX6_become_140 : decode cX6_become 140 = .ok (.return_, 1) := DX6_become (140, .return_, 1) (List.mem_of_getElem? (i := 72) rfl)
set_option maxRecDepth 100000 in
theorem DX6_join : ∀ q ∈ ([(0, .aload_n 0, 1), (1, .getfield 24, 3), (4, .bipush 10, 2), (6, .if_icmp .lt 4, 3), (9, .return_, 1), (10, .aload_n 0, 1), (11, .getfield 9, 3), (14, .aload_n 0, 1), (15, .getfield 24, 3), (18, .iload_n 1, 1), (19, .iastore, 1), (20, .aload_n 0, 1), (21, .getfield 15, 3), (24, .aload_n 0, 1), (25, .getfield 24, 3), (28, .iload_n 3, 1), (29, .iastore, 1), (30, .aload_n 0, 1), (31, .getfield 18, 3), (34, .aload_n 0, 1), (35, .getfield 24, 3), (38, .iconst 0, 1), (39, .iastore, 1), (40, .aload_n 0, 1), (41, .getfield 21, 3), (44, .aload_n 0, 1), (45, .getfield 24, 3), (48, .iconst 0, 1), (49, .iastore, 1), (50, .aload_n 0, 1), (51, .dup, 1), (52, .getfield 28, 3), (55, .iload_n 2, 1), (56, .aload_n 0, 1), (57, .getfield 24, 3), (60, .ishl, 1), (61, .ior, 1), (62, .putfield 28, 3), (65, .aload_n 0, 1), (66, .dup, 1), (67, .getfield 24, 3), (70, .iconst 1, 1), (71, .iadd, 1), (72, .putfield 24, 3), (75, .return_, 1)] : List (Nat × Instr × Nat)), decode cX6_join q.1 = .ok (q.2.1, q.2.2) := by decide +kernel
theorem dX6_join_0 : decode cX6_join 0 = .ok (.aload_n 0, 1) := DX6_join (0, .aload_n 0, 1) (List.mem_of_getElem? (i := 0) rfl)
theorem dX6_join_1 : decode cX6_join 1 = .ok (.getfield 24, 3) := DX6_join (1, .getfield 24, 3) (List.mem_of_getElem? (i := 1) rfl)
theorem dX6_join_4 : decode cX6_join 4 = .ok (.bipush 10, 2) := DX6_join (4, .bipush 10, 2) (List.mem_of_getElem? (i := 2) rfl)
theorem dX6_join_6 : decode cX6_join 6 = .ok (.if_icmp .lt 4, 3) := DX6_join (6, .if_icmp .lt 4, 3) (List.mem_of_getElem? (i := 3) rfl)
theorem dX6_join_9 : decode cX6_join 9 = .ok (.return_, 1) := DX6_join (9, .return_, 1) (List.mem_of_getElem? (i := 4) rfl)
theorem dX6_join_10 : decode cX6_join 10 = .ok (.aload_n 0, 1) := DX6_join (10, .aload_n 0, 1) (List.mem_of_getElem? (i := 5) rfl)
theorem dX6_join_11 : decode cX6_join 11 = .ok (.getfield 9, 3) := DX6_join (11, .getfield 9, 3) (List.mem_of_getElem? (i := 6) rfl)
theorem dX6_join_14 : decode cX6_join 14 = .ok (.aload_n 0, 1) := DX6_join (14, .aload_n 0, 1) (List.mem_of_getElem? (i := 7) rfl)
theorem dX6_join_15 : decode cX6_join 15 = .ok (.getfield 24, 3) := DX6_join (15, .getfield 24, 3) (List.mem_of_getElem? (i := 8) rfl)
theorem dX6_join_18 : decode cX6_join 18 = .ok (.iload_n 1, 1) := DX6_join (18, .iload_n 1, 1) (List.mem_of_getElem? (i := 9) rfl)
theorem dX6_join_19 : decode cX6_join 19 = .ok (.iastore, 1) := DX6_join (19, .iastore, 1) (List.mem_of_getElem? (i := 10) rfl)
theorem dX6_join_20 : decode cX6_join 20 = .ok (.aload_n 0, 1) := DX6_join (20, .aload_n 0, 1) (List.mem_of_getElem? (i := 11) rfl)
theorem dX6_join_21 : decode cX6_join 21 = .ok (.getfield 15, 3) := DX6_join (21, .getfield 15, 3) (List.mem_of_getElem? (i := 12) rfl)
theorem dX6_join_24 : decode cX6_join 24 = .ok (.aload_n 0, 1) := DX6_join (24, .aload_n 0, 1) (List.mem_of_getElem? (i := 13) rfl)
theorem dX6_join_25 : decode cX6_join 25 = .ok (.getfield 24, 3) := DX6_join (25, .getfield 24, 3) (List.mem_of_getElem? (i := 14) rfl)
theorem dX6_join_28 : decode cX6_join 28 = .ok (.iload_n 3, 1) := DX6_join (28, .iload_n 3, 1) (List.mem_of_getElem? (i := 15) rfl)
theorem dX6_join_29 : decode cX6_join 29 = .ok (.iastore, 1) := DX6_join (29, .iastore, 1) (List.mem_of_getElem? (i := 16) rfl)
theorem dX6_join_30 : decode cX6_join 30 = .ok (.aload_n 0, 1) := DX6_join (30, .aload_n 0, 1) (List.mem_of_getElem? (i := 17) rfl)
theorem dX6_join_31 : decode cX6_join 31 = .ok (.getfield 18, 3) := DX6_join (31, .getfield 18, 3) (List.mem_of_getElem? (i := 18) rfl)
theorem dX6_join_34 : decode cX6_join 34 = .ok (.aload_n 0, 1) := DX6_join (34, .aload_n 0, 1) (List.mem_of_getElem? (i := 19) rfl)
theorem dX6_join_35 : decode cX6_join 35 = .ok (.getfield 24, 3) := DX6_join (35, .getfield 24, 3) (List.mem_of_getElem? (i := 20) rfl)
theorem dX6_join_38 : decode cX6_join 38 = .ok (.iconst 0, 1) := DX6_join (38, .iconst 0, 1) (List.mem_of_getElem? (i := 21) rfl)
theorem dX6_join_39 : decode cX6_join 39 = .ok (.iastore, 1) := DX6_join (39, .iastore, 1) (List.mem_of_getElem? (i := 22) rfl)
theorem dX6_join_40 : decode cX6_join 40 = .ok (.aload_n 0, 1) := DX6_join (40, .aload_n 0, 1) (List.mem_of_getElem? (i := 23) rfl)
theorem dX6_join_41 : decode cX6_join 41 = .ok (.getfield 21, 3) := DX6_join (41, .getfield 21, 3) (List.mem_of_getElem? (i := 24) rfl)
theorem dX6_join_44 : decode cX6_join 44 = .ok (.aload_n 0, 1) := DX6_join (44, .aload_n 0, 1) (List.mem_of_getElem? (i := 25) rfl)
theorem dX6_join_45 : decode cX6_join 45 = .ok (.getfield 24, 3) := DX6_join (45, .getfield 24, 3) (List.mem_of_getElem? (i := 26) rfl)
theorem dX6_join_48 : decode cX6_join 48 = .ok (.iconst 0, 1) := DX6_join (48, .iconst 0, 1) (List.mem_of_getElem? (i := 27) rfl)
theorem dX6_join_49 : decode cX6_join 49 = .ok (.iastore, 1) := DX6_join (49, .iastore, 1) (List.mem_of_getElem? (i := 28) rfl)
theorem dX6_join_50 : decode cX6_join 50 = .ok (.aload_n 0, 1) := DX6_join (50, .aload_n 0, 1) (List.mem_of_getElem? (i := 29) rfl)
theorem dX6_join_51 : decode cX6_join 51 = .ok (.dup, 1) := DX6_join (51, .dup, 1) (List.mem_of_getElem? (i := 30) rfl)
theorem dX6_join_52 : decode cX6_join 52 = .ok (.getfield 28, 3) := DX6_join (52, .getfield 28, 3) (List.mem_of_getElem? (i := 31) rfl)
theorem dX6_join_55 : decode cX6_join 55 = .ok (.iload_n 2, 1) := DX6_join (55, .iload_n 2, 1) (List.mem_of_getElem? (i := 32) rfl)
theorem dX6_join_56 : decode cX6_join 56 = .ok (.aload_n 0, 1) := DX6_join (56, .aload_n 0, 1) (List.mem_of_getElem? (i := 33) rfl)
theorem dX6_join_57 : decode cX6_join 57 = .ok (.getfield 24, 3) := DX6_join (57, .getfield 24, 3) (List.mem_of_getElem? (i := 34) rfl)
theorem dX6_join_60 : decode cX6_join 60 = .ok (.ishl, 1) := DX6_join (60, .ishl, 1) (List.mem_of_getElem? (i := 35) rfl)
theorem dX6_join_61 : decode cX6_join 61 = .ok (.ior, 1) := DX6_join (61, .ior, 1) (List.mem_of_getElem? (i := 36) rfl)
theorem dX6_join_62 : decode cX6_join 62 = .ok (.putfield 28, 3) := DX6_join (62, .putfield 28, 3) (List.mem_of_getElem? (i := 37) rfl)
theorem dX6_join_65 : decode cX6_join 65 = .ok (.aload_n 0, 1) := DX6_join (65, .aload_n 0, 1) (List.mem_of_getElem? (i := 38) rfl)
theorem dX6_join_66 : decode cX6_join 66 = .ok (.dup, 1) := DX6_join (66, .dup, 1) (List.mem_of_getElem? (i := 39) rfl)
theorem dX6_join_67 : decode cX6_join 67 = .ok (.getfield 24, 3) := DX6_join (67, .getfield 24, 3) (List.mem_of_getElem? (i := 40) rfl)
theorem dX6_join_70 : decode cX6_join 70 = .ok (.iconst 1, 1) := DX6_join (70, .iconst 1, 1) (List.mem_of_getElem? (i := 41) rfl)
theorem dX6_join_71 : decode cX6_join 71 = .ok (.iadd, 1) := DX6_join (71, .iadd, 1) (List.mem_of_getElem? (i := 42) rfl)
theorem dX6_join_72 : decode cX6_join 72 = .ok (.putfield 24, 3) := DX6_join (72, .putfield 24, 3) (List.mem_of_getElem? (i := 43) rfl)
theorem dX6_join_75 : decode cX6_join 75 = .ok (.return_, 1) := DX6_join (75, .return_, 1) (List.mem_of_getElem? (i := 44) rfl)
set_option maxRecDepth 100000 in
theorem DX6_mindOf : ∀ q ∈ ([(0, .aload_n 0, 1), (1, .getfield 28, 3), (4, .iload_n 1, 1), (5, .ishr, 1), (6, .iconst 1, 1), (7, .iand, 1), (8, .ireturn, 1)] : List (Nat × Instr × Nat)), decode cX6_mindOf q.1 = .ok (q.2.1, q.2.2) := by decide +kernel
theorem dX6_mindOf_0 : decode cX6_mindOf 0 = .ok (.aload_n 0, 1) := DX6_mindOf (0, .aload_n 0, 1) (List.mem_of_getElem? (i := 0) rfl)
theorem dX6_mindOf_1 : decode cX6_mindOf 1 = .ok (.getfield 28, 3) := DX6_mindOf (1, .getfield 28, 3) (List.mem_of_getElem? (i := 1) rfl)
theorem dX6_mindOf_4 : decode cX6_mindOf 4 = .ok (.iload_n 1, 1) := DX6_mindOf (4, .iload_n 1, 1) (List.mem_of_getElem? (i := 2) rfl)
theorem dX6_mindOf_5 : decode cX6_mindOf 5 = .ok (.ishr, 1) := DX6_mindOf (5, .ishr, 1) (List.mem_of_getElem? (i := 3) rfl)
theorem dX6_mindOf_6 : decode cX6_mindOf 6 = .ok (.iconst 1, 1) := DX6_mindOf (6, .iconst 1, 1) (List.mem_of_getElem? (i := 4) rfl)
theorem dX6_mindOf_7 : decode cX6_mindOf 7 = .ok (.iand, 1) := DX6_mindOf (7, .iand, 1) (List.mem_of_getElem? (i := 5) rfl)
theorem dX6_mindOf_8 : decode cX6_mindOf 8 = .ok (.ireturn, 1) := DX6_mindOf (8, .ireturn, 1) (List.mem_of_getElem? (i := 6) rfl)
set_option maxRecDepth 100000 in
theorem DX6_flip : ∀ q ∈ ([(0, .aload_n 0, 1), (1, .dup, 1), (2, .getfield 28, 3), (5, .iconst 1, 1), (6, .iload_n 1, 1), (7, .ishl, 1), (8, .ixor, 1), (9, .putfield 28, 3), (12, .return_, 1)] : List (Nat × Instr × Nat)), decode cX6_flip q.1 = .ok (q.2.1, q.2.2) := by decide +kernel
theorem dX6_flip_0 : decode cX6_flip 0 = .ok (.aload_n 0, 1) := DX6_flip (0, .aload_n 0, 1) (List.mem_of_getElem? (i := 0) rfl)
theorem dX6_flip_1 : decode cX6_flip 1 = .ok (.dup, 1) := DX6_flip (1, .dup, 1) (List.mem_of_getElem? (i := 1) rfl)
theorem dX6_flip_2 : decode cX6_flip 2 = .ok (.getfield 28, 3) := DX6_flip (2, .getfield 28, 3) (List.mem_of_getElem? (i := 2) rfl)
theorem dX6_flip_5 : decode cX6_flip 5 = .ok (.iconst 1, 1) := DX6_flip (5, .iconst 1, 1) (List.mem_of_getElem? (i := 3) rfl)
theorem dX6_flip_6 : decode cX6_flip 6 = .ok (.iload_n 1, 1) := DX6_flip (6, .iload_n 1, 1) (List.mem_of_getElem? (i := 4) rfl)
theorem dX6_flip_7 : decode cX6_flip 7 = .ok (.ishl, 1) := DX6_flip (7, .ishl, 1) (List.mem_of_getElem? (i := 5) rfl)
theorem dX6_flip_8 : decode cX6_flip 8 = .ok (.ixor, 1) := DX6_flip (8, .ixor, 1) (List.mem_of_getElem? (i := 6) rfl)
theorem dX6_flip_9 : decode cX6_flip 9 = .ok (.putfield 28, 3) := DX6_flip (9, .putfield 28, 3) (List.mem_of_getElem? (i := 7) rfl)
theorem dX6_flip_12 : decode cX6_flip 12 = .ok (.return_, 1) := DX6_flip (12, .return_, 1) (List.mem_of_getElem? (i := 8) rfl)
set_option maxRecDepth 100000 in
theorem DX6_areFriends : ∀ q ∈ ([(0, .aload_n 0, 1), (1, .getfield 21, 3), (4, .iload_n 1, 1), (5, .iaload, 1), (6, .iload_n 2, 1), (7, .ishr, 1), (8, .iconst 1, 1), (9, .iand, 1), (10, .iconst 1, 1), (11, .if_icmp .ne 7, 3), (14, .iconst 1, 1), (15, .goto 4, 3), (18, .iconst 0, 1), (19, .ireturn, 1)] : List (Nat × Instr × Nat)), decode cX6_areFriends q.1 = .ok (q.2.1, q.2.2) := by decide +kernel
theorem dX6_areFriends_0 : decode cX6_areFriends 0 = .ok (.aload_n 0, 1) := DX6_areFriends (0, .aload_n 0, 1) (List.mem_of_getElem? (i := 0) rfl)
theorem dX6_areFriends_1 : decode cX6_areFriends 1 = .ok (.getfield 21, 3) := DX6_areFriends (1, .getfield 21, 3) (List.mem_of_getElem? (i := 1) rfl)
theorem dX6_areFriends_4 : decode cX6_areFriends 4 = .ok (.iload_n 1, 1) := DX6_areFriends (4, .iload_n 1, 1) (List.mem_of_getElem? (i := 2) rfl)
theorem dX6_areFriends_5 : decode cX6_areFriends 5 = .ok (.iaload, 1) := DX6_areFriends (5, .iaload, 1) (List.mem_of_getElem? (i := 3) rfl)
theorem dX6_areFriends_6 : decode cX6_areFriends 6 = .ok (.iload_n 2, 1) := DX6_areFriends (6, .iload_n 2, 1) (List.mem_of_getElem? (i := 4) rfl)
theorem dX6_areFriends_7 : decode cX6_areFriends 7 = .ok (.ishr, 1) := DX6_areFriends (7, .ishr, 1) (List.mem_of_getElem? (i := 5) rfl)
theorem dX6_areFriends_8 : decode cX6_areFriends 8 = .ok (.iconst 1, 1) := DX6_areFriends (8, .iconst 1, 1) (List.mem_of_getElem? (i := 6) rfl)
theorem dX6_areFriends_9 : decode cX6_areFriends 9 = .ok (.iand, 1) := DX6_areFriends (9, .iand, 1) (List.mem_of_getElem? (i := 7) rfl)
theorem dX6_areFriends_10 : decode cX6_areFriends 10 = .ok (.iconst 1, 1) := DX6_areFriends (10, .iconst 1, 1) (List.mem_of_getElem? (i := 8) rfl)
theorem dX6_areFriends_11 : decode cX6_areFriends 11 = .ok (.if_icmp .ne 7, 3) := DX6_areFriends (11, .if_icmp .ne 7, 3) (List.mem_of_getElem? (i := 9) rfl)
theorem dX6_areFriends_14 : decode cX6_areFriends 14 = .ok (.iconst 1, 1) := DX6_areFriends (14, .iconst 1, 1) (List.mem_of_getElem? (i := 10) rfl)
theorem dX6_areFriends_15 : decode cX6_areFriends 15 = .ok (.goto 4, 3) := DX6_areFriends (15, .goto 4, 3) (List.mem_of_getElem? (i := 11) rfl)
theorem dX6_areFriends_18 : decode cX6_areFriends 18 = .ok (.iconst 0, 1) := DX6_areFriends (18, .iconst 0, 1) (List.mem_of_getElem? (i := 12) rfl)
theorem dX6_areFriends_19 : decode cX6_areFriends 19 = .ok (.ireturn, 1) := DX6_areFriends (19, .ireturn, 1) (List.mem_of_getElem? (i := 13) rfl)
set_option maxRecDepth 100000 in
theorem DX6_offAmong : ∀ q ∈ ([(0, .iconst 2, 1), (1, .iload_n 0, 1), (2, .iload_n 1, 1), (3, .iand, 1), (4, .invokestatic 65, 3), (7, .imul, 1), (8, .iload_n 0, 1), (9, .invokestatic 65, 3), (12, .isub, 1), (13, .invokestatic 71, 3), (16, .ireturn, 1)] : List (Nat × Instr × Nat)), decode cX6_offAmong q.1 = .ok (q.2.1, q.2.2) := by decide +kernel
theorem dX6_offAmong_0 : decode cX6_offAmong 0 = .ok (.iconst 2, 1) := DX6_offAmong (0, .iconst 2, 1) (List.mem_of_getElem? (i := 0) rfl)
theorem dX6_offAmong_1 : decode cX6_offAmong 1 = .ok (.iload_n 0, 1) := DX6_offAmong (1, .iload_n 0, 1) (List.mem_of_getElem? (i := 1) rfl)
theorem dX6_offAmong_2 : decode cX6_offAmong 2 = .ok (.iload_n 1, 1) := DX6_offAmong (2, .iload_n 1, 1) (List.mem_of_getElem? (i := 2) rfl)
theorem dX6_offAmong_3 : decode cX6_offAmong 3 = .ok (.iand, 1) := DX6_offAmong (3, .iand, 1) (List.mem_of_getElem? (i := 3) rfl)
theorem dX6_offAmong_4 : decode cX6_offAmong 4 = .ok (.invokestatic 65, 3) := DX6_offAmong (4, .invokestatic 65, 3) (List.mem_of_getElem? (i := 4) rfl)
theorem dX6_offAmong_7 : decode cX6_offAmong 7 = .ok (.imul, 1) := DX6_offAmong (7, .imul, 1) (List.mem_of_getElem? (i := 5) rfl)
theorem dX6_offAmong_8 : decode cX6_offAmong 8 = .ok (.iload_n 0, 1) := DX6_offAmong (8, .iload_n 0, 1) (List.mem_of_getElem? (i := 6) rfl)
theorem dX6_offAmong_9 : decode cX6_offAmong 9 = .ok (.invokestatic 65, 3) := DX6_offAmong (9, .invokestatic 65, 3) (List.mem_of_getElem? (i := 7) rfl)
theorem dX6_offAmong_12 : decode cX6_offAmong 12 = .ok (.isub, 1) := DX6_offAmong (12, .isub, 1) (List.mem_of_getElem? (i := 8) rfl)
theorem dX6_offAmong_13 : decode cX6_offAmong 13 = .ok (.invokestatic 71, 3) := DX6_offAmong (13, .invokestatic 71, 3) (List.mem_of_getElem? (i := 9) rfl)
theorem dX6_offAmong_16 : decode cX6_offAmong 16 = .ok (.ireturn, 1) := DX6_offAmong (16, .ireturn, 1) (List.mem_of_getElem? (i := 10) rfl)
set_option maxRecDepth 100000 in
theorem DX6_off : ∀ q ∈ ([(0, .aload_n 0, 1), (1, .getfield 21, 3), (4, .iload_n 1, 1), (5, .iaload, 1), (6, .iload_n 2, 1), (7, .invokestatic 76, 3), (10, .ireturn, 1)] : List (Nat × Instr × Nat)), decode cX6_off q.1 = .ok (q.2.1, q.2.2) := by decide +kernel
theorem dX6_off_0 : decode cX6_off 0 = .ok (.aload_n 0, 1) := DX6_off (0, .aload_n 0, 1) (List.mem_of_getElem? (i := 0) rfl)
theorem dX6_off_1 : decode cX6_off 1 = .ok (.getfield 21, 3) := DX6_off (1, .getfield 21, 3) (List.mem_of_getElem? (i := 1) rfl)
theorem dX6_off_4 : decode cX6_off 4 = .ok (.iload_n 1, 1) := DX6_off (4, .iload_n 1, 1) (List.mem_of_getElem? (i := 2) rfl)
theorem dX6_off_5 : decode cX6_off 5 = .ok (.iaload, 1) := DX6_off (5, .iaload, 1) (List.mem_of_getElem? (i := 3) rfl)
theorem dX6_off_6 : decode cX6_off 6 = .ok (.iload_n 2, 1) := DX6_off (6, .iload_n 2, 1) (List.mem_of_getElem? (i := 4) rfl)
theorem dX6_off_7 : decode cX6_off 7 = .ok (.invokestatic 76, 3) := DX6_off (7, .invokestatic 76, 3) (List.mem_of_getElem? (i := 5) rfl)
theorem dX6_off_10 : decode cX6_off 10 = .ok (.ireturn, 1) := DX6_off (10, .ireturn, 1) (List.mem_of_getElem? (i := 6) rfl)
set_option maxRecDepth 100000 in
theorem DX6_offOf : ∀ q ∈ ([(0, .aload_n 0, 1), (1, .iload_n 1, 1), (2, .aload_n 0, 1), (3, .getfield 28, 3), (6, .invokevirtual 80, 3), (9, .ireturn, 1)] : List (Nat × Instr × Nat)), decode cX6_offOf q.1 = .ok (q.2.1, q.2.2) := by decide +kernel
theorem dX6_offOf_0 : decode cX6_offOf 0 = .ok (.aload_n 0, 1) := DX6_offOf (0, .aload_n 0, 1) (List.mem_of_getElem? (i := 0) rfl)
theorem dX6_offOf_1 : decode cX6_offOf 1 = .ok (.iload_n 1, 1) := DX6_offOf (1, .iload_n 1, 1) (List.mem_of_getElem? (i := 1) rfl)
theorem dX6_offOf_2 : decode cX6_offOf 2 = .ok (.aload_n 0, 1) := DX6_offOf (2, .aload_n 0, 1) (List.mem_of_getElem? (i := 2) rfl)
theorem dX6_offOf_3 : decode cX6_offOf 3 = .ok (.getfield 28, 3) := DX6_offOf (3, .getfield 28, 3) (List.mem_of_getElem? (i := 3) rfl)
theorem dX6_offOf_6 : decode cX6_offOf 6 = .ok (.invokevirtual 80, 3) := DX6_offOf (6, .invokevirtual 80, 3) (List.mem_of_getElem? (i := 4) rfl)
theorem dX6_offOf_9 : decode cX6_offOf 9 = .ok (.ireturn, 1) := DX6_offOf (9, .ireturn, 1) (List.mem_of_getElem? (i := 5) rfl)
set_option maxRecDepth 100000 in
theorem DX6_offTogether : ∀ q ∈ ([(0, .iconst 0, 1), (1, .istore_n 1, 1), (2, .iconst 0, 1), (3, .istore_n 2, 1), (4, .iload_n 2, 1), (5, .aload_n 0, 1), (6, .getfield 24, 3), (9, .if_icmp .ge 17, 3), (12, .iload_n 1, 1), (13, .aload_n 0, 1), (14, .iload_n 2, 1), (15, .invokevirtual 83, 3), (18, .iadd, 1), (19, .istore_n 1, 1), (20, .iinc 2 1, 3), (23, .goto (-19), 3), (26, .iload_n 1, 1), (27, .ireturn, 1)] : List (Nat × Instr × Nat)), decode cX6_offTogether q.1 = .ok (q.2.1, q.2.2) := by decide +kernel
theorem dX6_offTogether_0 : decode cX6_offTogether 0 = .ok (.iconst 0, 1) := DX6_offTogether (0, .iconst 0, 1) (List.mem_of_getElem? (i := 0) rfl)
theorem dX6_offTogether_1 : decode cX6_offTogether 1 = .ok (.istore_n 1, 1) := DX6_offTogether (1, .istore_n 1, 1) (List.mem_of_getElem? (i := 1) rfl)
theorem dX6_offTogether_2 : decode cX6_offTogether 2 = .ok (.iconst 0, 1) := DX6_offTogether (2, .iconst 0, 1) (List.mem_of_getElem? (i := 2) rfl)
theorem dX6_offTogether_3 : decode cX6_offTogether 3 = .ok (.istore_n 2, 1) := DX6_offTogether (3, .istore_n 2, 1) (List.mem_of_getElem? (i := 3) rfl)
theorem dX6_offTogether_4 : decode cX6_offTogether 4 = .ok (.iload_n 2, 1) := DX6_offTogether (4, .iload_n 2, 1) (List.mem_of_getElem? (i := 4) rfl)
theorem dX6_offTogether_5 : decode cX6_offTogether 5 = .ok (.aload_n 0, 1) := DX6_offTogether (5, .aload_n 0, 1) (List.mem_of_getElem? (i := 5) rfl)
theorem dX6_offTogether_6 : decode cX6_offTogether 6 = .ok (.getfield 24, 3) := DX6_offTogether (6, .getfield 24, 3) (List.mem_of_getElem? (i := 6) rfl)
theorem dX6_offTogether_9 : decode cX6_offTogether 9 = .ok (.if_icmp .ge 17, 3) := DX6_offTogether (9, .if_icmp .ge 17, 3) (List.mem_of_getElem? (i := 7) rfl)
theorem dX6_offTogether_12 : decode cX6_offTogether 12 = .ok (.iload_n 1, 1) := DX6_offTogether (12, .iload_n 1, 1) (List.mem_of_getElem? (i := 8) rfl)
theorem dX6_offTogether_13 : decode cX6_offTogether 13 = .ok (.aload_n 0, 1) := DX6_offTogether (13, .aload_n 0, 1) (List.mem_of_getElem? (i := 9) rfl)
theorem dX6_offTogether_14 : decode cX6_offTogether 14 = .ok (.iload_n 2, 1) := DX6_offTogether (14, .iload_n 2, 1) (List.mem_of_getElem? (i := 10) rfl)
theorem dX6_offTogether_15 : decode cX6_offTogether 15 = .ok (.invokevirtual 83, 3) := DX6_offTogether (15, .invokevirtual 83, 3) (List.mem_of_getElem? (i := 11) rfl)
theorem dX6_offTogether_18 : decode cX6_offTogether 18 = .ok (.iadd, 1) := DX6_offTogether (18, .iadd, 1) (List.mem_of_getElem? (i := 12) rfl)
theorem dX6_offTogether_19 : decode cX6_offTogether 19 = .ok (.istore_n 1, 1) := DX6_offTogether (19, .istore_n 1, 1) (List.mem_of_getElem? (i := 13) rfl)
theorem dX6_offTogether_20 : decode cX6_offTogether 20 = .ok (.iinc 2 1, 3) := DX6_offTogether (20, .iinc 2 1, 3) (List.mem_of_getElem? (i := 14) rfl)
theorem dX6_offTogether_23 : decode cX6_offTogether 23 = .ok (.goto (-19), 3) := DX6_offTogether (23, .goto (-19), 3) (List.mem_of_getElem? (i := 15) rfl)
theorem dX6_offTogether_26 : decode cX6_offTogether 26 = .ok (.iload_n 1, 1) := DX6_offTogether (26, .iload_n 1, 1) (List.mem_of_getElem? (i := 16) rfl)
theorem dX6_offTogether_27 : decode cX6_offTogether 27 = .ok (.ireturn, 1) := DX6_offTogether (27, .ireturn, 1) (List.mem_of_getElem? (i := 17) rfl)
set_option maxRecDepth 100000 in
theorem DX6_unruly : ∀ q ∈ ([(0, .iconst 0, 1), (1, .istore_n 2, 1), (2, .iconst 0, 1), (3, .istore_n 3, 1), (4, .iload_n 3, 1), (5, .aload_n 0, 1), (6, .getfield 24, 3), (9, .if_icmp .ge 28, 3), (12, .aload_n 0, 1), (13, .iload_n 3, 1), (14, .iload_n 1, 1), (15, .invokevirtual 80, 3), (18, .aload_n 0, 1), (19, .getfield 31, 3), (22, .if_icmp .le 9, 3), (25, .iload_n 2, 1), (26, .iconst 1, 1), (27, .iload_n 3, 1), (28, .ishl, 1), (29, .ior, 1), (30, .istore_n 2, 1), (31, .iinc 3 1, 3), (34, .goto (-30), 3), (37, .iload_n 2, 1), (38, .ireturn, 1)] : List (Nat × Instr × Nat)), decode cX6_unruly q.1 = .ok (q.2.1, q.2.2) := by decide +kernel
theorem dX6_unruly_0 : decode cX6_unruly 0 = .ok (.iconst 0, 1) := DX6_unruly (0, .iconst 0, 1) (List.mem_of_getElem? (i := 0) rfl)
theorem dX6_unruly_1 : decode cX6_unruly 1 = .ok (.istore_n 2, 1) := DX6_unruly (1, .istore_n 2, 1) (List.mem_of_getElem? (i := 1) rfl)
theorem dX6_unruly_2 : decode cX6_unruly 2 = .ok (.iconst 0, 1) := DX6_unruly (2, .iconst 0, 1) (List.mem_of_getElem? (i := 2) rfl)
theorem dX6_unruly_3 : decode cX6_unruly 3 = .ok (.istore_n 3, 1) := DX6_unruly (3, .istore_n 3, 1) (List.mem_of_getElem? (i := 3) rfl)
theorem dX6_unruly_4 : decode cX6_unruly 4 = .ok (.iload_n 3, 1) := DX6_unruly (4, .iload_n 3, 1) (List.mem_of_getElem? (i := 4) rfl)
theorem dX6_unruly_5 : decode cX6_unruly 5 = .ok (.aload_n 0, 1) := DX6_unruly (5, .aload_n 0, 1) (List.mem_of_getElem? (i := 5) rfl)
theorem dX6_unruly_6 : decode cX6_unruly 6 = .ok (.getfield 24, 3) := DX6_unruly (6, .getfield 24, 3) (List.mem_of_getElem? (i := 6) rfl)
theorem dX6_unruly_9 : decode cX6_unruly 9 = .ok (.if_icmp .ge 28, 3) := DX6_unruly (9, .if_icmp .ge 28, 3) (List.mem_of_getElem? (i := 7) rfl)
theorem dX6_unruly_12 : decode cX6_unruly 12 = .ok (.aload_n 0, 1) := DX6_unruly (12, .aload_n 0, 1) (List.mem_of_getElem? (i := 8) rfl)
theorem dX6_unruly_13 : decode cX6_unruly 13 = .ok (.iload_n 3, 1) := DX6_unruly (13, .iload_n 3, 1) (List.mem_of_getElem? (i := 9) rfl)
theorem dX6_unruly_14 : decode cX6_unruly 14 = .ok (.iload_n 1, 1) := DX6_unruly (14, .iload_n 1, 1) (List.mem_of_getElem? (i := 10) rfl)
theorem dX6_unruly_15 : decode cX6_unruly 15 = .ok (.invokevirtual 80, 3) := DX6_unruly (15, .invokevirtual 80, 3) (List.mem_of_getElem? (i := 11) rfl)
theorem dX6_unruly_18 : decode cX6_unruly 18 = .ok (.aload_n 0, 1) := DX6_unruly (18, .aload_n 0, 1) (List.mem_of_getElem? (i := 12) rfl)
theorem dX6_unruly_19 : decode cX6_unruly 19 = .ok (.getfield 31, 3) := DX6_unruly (19, .getfield 31, 3) (List.mem_of_getElem? (i := 13) rfl)
theorem dX6_unruly_22 : decode cX6_unruly 22 = .ok (.if_icmp .le 9, 3) := DX6_unruly (22, .if_icmp .le 9, 3) (List.mem_of_getElem? (i := 14) rfl)
theorem dX6_unruly_25 : decode cX6_unruly 25 = .ok (.iload_n 2, 1) := DX6_unruly (25, .iload_n 2, 1) (List.mem_of_getElem? (i := 15) rfl)
theorem dX6_unruly_26 : decode cX6_unruly 26 = .ok (.iconst 1, 1) := DX6_unruly (26, .iconst 1, 1) (List.mem_of_getElem? (i := 16) rfl)
theorem dX6_unruly_27 : decode cX6_unruly 27 = .ok (.iload_n 3, 1) := DX6_unruly (27, .iload_n 3, 1) (List.mem_of_getElem? (i := 17) rfl)
theorem dX6_unruly_28 : decode cX6_unruly 28 = .ok (.ishl, 1) := DX6_unruly (28, .ishl, 1) (List.mem_of_getElem? (i := 18) rfl)
theorem dX6_unruly_29 : decode cX6_unruly 29 = .ok (.ior, 1) := DX6_unruly (29, .ior, 1) (List.mem_of_getElem? (i := 19) rfl)
theorem dX6_unruly_30 : decode cX6_unruly 30 = .ok (.istore_n 2, 1) := DX6_unruly (30, .istore_n 2, 1) (List.mem_of_getElem? (i := 20) rfl)
theorem dX6_unruly_31 : decode cX6_unruly 31 = .ok (.iinc 3 1, 3) := DX6_unruly (31, .iinc 3 1, 3) (List.mem_of_getElem? (i := 21) rfl)
theorem dX6_unruly_34 : decode cX6_unruly 34 = .ok (.goto (-30), 3) := DX6_unruly (34, .goto (-30), 3) (List.mem_of_getElem? (i := 22) rfl)
theorem dX6_unruly_37 : decode cX6_unruly 37 = .ok (.iload_n 2, 1) := DX6_unruly (37, .iload_n 2, 1) (List.mem_of_getElem? (i := 23) rfl)
theorem dX6_unruly_38 : decode cX6_unruly 38 = .ok (.ireturn, 1) := DX6_unruly (38, .ireturn, 1) (List.mem_of_getElem? (i := 24) rfl)
set_option maxRecDepth 100000 in
theorem DX6_oddOnes : ∀ q ∈ ([(0, .iconst 0, 1), (1, .istore_n 1, 1), (2, .iconst 0, 1), (3, .istore_n 2, 1), (4, .iload_n 2, 1), (5, .aload_n 0, 1), (6, .getfield 24, 3), (9, .if_icmp .ge 25, 3), (12, .iload_n 1, 1), (13, .aload_n 0, 1), (14, .getfield 21, 3), (17, .iload_n 2, 1), (18, .iaload, 1), (19, .invokestatic 65, 3), (22, .iconst 1, 1), (23, .iand, 1), (24, .iload_n 2, 1), (25, .ishl, 1), (26, .ior, 1), (27, .istore_n 1, 1), (28, .iinc 2 1, 3), (31, .goto (-27), 3), (34, .iload_n 1, 1), (35, .ireturn, 1)] : List (Nat × Instr × Nat)), decode cX6_oddOnes q.1 = .ok (q.2.1, q.2.2) := by decide +kernel
theorem dX6_oddOnes_0 : decode cX6_oddOnes 0 = .ok (.iconst 0, 1) := DX6_oddOnes (0, .iconst 0, 1) (List.mem_of_getElem? (i := 0) rfl)
theorem dX6_oddOnes_1 : decode cX6_oddOnes 1 = .ok (.istore_n 1, 1) := DX6_oddOnes (1, .istore_n 1, 1) (List.mem_of_getElem? (i := 1) rfl)
theorem dX6_oddOnes_2 : decode cX6_oddOnes 2 = .ok (.iconst 0, 1) := DX6_oddOnes (2, .iconst 0, 1) (List.mem_of_getElem? (i := 2) rfl)
theorem dX6_oddOnes_3 : decode cX6_oddOnes 3 = .ok (.istore_n 2, 1) := DX6_oddOnes (3, .istore_n 2, 1) (List.mem_of_getElem? (i := 3) rfl)
theorem dX6_oddOnes_4 : decode cX6_oddOnes 4 = .ok (.iload_n 2, 1) := DX6_oddOnes (4, .iload_n 2, 1) (List.mem_of_getElem? (i := 4) rfl)
theorem dX6_oddOnes_5 : decode cX6_oddOnes 5 = .ok (.aload_n 0, 1) := DX6_oddOnes (5, .aload_n 0, 1) (List.mem_of_getElem? (i := 5) rfl)
theorem dX6_oddOnes_6 : decode cX6_oddOnes 6 = .ok (.getfield 24, 3) := DX6_oddOnes (6, .getfield 24, 3) (List.mem_of_getElem? (i := 6) rfl)
theorem dX6_oddOnes_9 : decode cX6_oddOnes 9 = .ok (.if_icmp .ge 25, 3) := DX6_oddOnes (9, .if_icmp .ge 25, 3) (List.mem_of_getElem? (i := 7) rfl)
theorem dX6_oddOnes_12 : decode cX6_oddOnes 12 = .ok (.iload_n 1, 1) := DX6_oddOnes (12, .iload_n 1, 1) (List.mem_of_getElem? (i := 8) rfl)
theorem dX6_oddOnes_13 : decode cX6_oddOnes 13 = .ok (.aload_n 0, 1) := DX6_oddOnes (13, .aload_n 0, 1) (List.mem_of_getElem? (i := 9) rfl)
theorem dX6_oddOnes_14 : decode cX6_oddOnes 14 = .ok (.getfield 21, 3) := DX6_oddOnes (14, .getfield 21, 3) (List.mem_of_getElem? (i := 10) rfl)
theorem dX6_oddOnes_17 : decode cX6_oddOnes 17 = .ok (.iload_n 2, 1) := DX6_oddOnes (17, .iload_n 2, 1) (List.mem_of_getElem? (i := 11) rfl)
theorem dX6_oddOnes_18 : decode cX6_oddOnes 18 = .ok (.iaload, 1) := DX6_oddOnes (18, .iaload, 1) (List.mem_of_getElem? (i := 12) rfl)
theorem dX6_oddOnes_19 : decode cX6_oddOnes 19 = .ok (.invokestatic 65, 3) := DX6_oddOnes (19, .invokestatic 65, 3) (List.mem_of_getElem? (i := 13) rfl)
theorem dX6_oddOnes_22 : decode cX6_oddOnes 22 = .ok (.iconst 1, 1) := DX6_oddOnes (22, .iconst 1, 1) (List.mem_of_getElem? (i := 14) rfl)
theorem dX6_oddOnes_23 : decode cX6_oddOnes 23 = .ok (.iand, 1) := DX6_oddOnes (23, .iand, 1) (List.mem_of_getElem? (i := 15) rfl)
theorem dX6_oddOnes_24 : decode cX6_oddOnes 24 = .ok (.iload_n 2, 1) := DX6_oddOnes (24, .iload_n 2, 1) (List.mem_of_getElem? (i := 16) rfl)
theorem dX6_oddOnes_25 : decode cX6_oddOnes 25 = .ok (.ishl, 1) := DX6_oddOnes (25, .ishl, 1) (List.mem_of_getElem? (i := 17) rfl)
theorem dX6_oddOnes_26 : decode cX6_oddOnes 26 = .ok (.ior, 1) := DX6_oddOnes (26, .ior, 1) (List.mem_of_getElem? (i := 18) rfl)
theorem dX6_oddOnes_27 : decode cX6_oddOnes 27 = .ok (.istore_n 1, 1) := DX6_oddOnes (27, .istore_n 1, 1) (List.mem_of_getElem? (i := 19) rfl)
theorem dX6_oddOnes_28 : decode cX6_oddOnes 28 = .ok (.iinc 2 1, 3) := DX6_oddOnes (28, .iinc 2 1, 3) (List.mem_of_getElem? (i := 20) rfl)
theorem dX6_oddOnes_31 : decode cX6_oddOnes 31 = .ok (.goto (-27), 3) := DX6_oddOnes (31, .goto (-27), 3) (List.mem_of_getElem? (i := 21) rfl)
theorem dX6_oddOnes_34 : decode cX6_oddOnes 34 = .ok (.iload_n 1, 1) := DX6_oddOnes (34, .iload_n 1, 1) (List.mem_of_getElem? (i := 22) rfl)
theorem dX6_oddOnes_35 : decode cX6_oddOnes 35 = .ok (.ireturn, 1) := DX6_oddOnes (35, .ireturn, 1) (List.mem_of_getElem? (i := 23) rfl)
set_option maxRecDepth 100000 in
theorem DX6_fixedOnes : ∀ q ∈ ([(0, .iconst 0, 1), (1, .istore_n 1, 1), (2, .iconst 0, 1), (3, .istore_n 2, 1), (4, .iload_n 2, 1), (5, .aload_n 0, 1), (6, .getfield 24, 3), (9, .if_icmp .ge 25, 3), (12, .aload_n 0, 1), (13, .getfield 9, 3), (16, .iload_n 2, 1), (17, .iaload, 1), (18, .iconst 5, 1), (19, .if_icmp .ne 9, 3), (22, .iload_n 1, 1), (23, .iconst 1, 1), (24, .iload_n 2, 1), (25, .ishl, 1), (26, .ior, 1), (27, .istore_n 1, 1), (28, .iinc 2 1, 3), (31, .goto (-27), 3), (34, .iload_n 1, 1), (35, .ireturn, 1)] : List (Nat × Instr × Nat)), decode cX6_fixedOnes q.1 = .ok (q.2.1, q.2.2) := by decide +kernel
theorem dX6_fixedOnes_0 : decode cX6_fixedOnes 0 = .ok (.iconst 0, 1) := DX6_fixedOnes (0, .iconst 0, 1) (List.mem_of_getElem? (i := 0) rfl)
theorem dX6_fixedOnes_1 : decode cX6_fixedOnes 1 = .ok (.istore_n 1, 1) := DX6_fixedOnes (1, .istore_n 1, 1) (List.mem_of_getElem? (i := 1) rfl)
theorem dX6_fixedOnes_2 : decode cX6_fixedOnes 2 = .ok (.iconst 0, 1) := DX6_fixedOnes (2, .iconst 0, 1) (List.mem_of_getElem? (i := 2) rfl)
theorem dX6_fixedOnes_3 : decode cX6_fixedOnes 3 = .ok (.istore_n 2, 1) := DX6_fixedOnes (3, .istore_n 2, 1) (List.mem_of_getElem? (i := 3) rfl)
theorem dX6_fixedOnes_4 : decode cX6_fixedOnes 4 = .ok (.iload_n 2, 1) := DX6_fixedOnes (4, .iload_n 2, 1) (List.mem_of_getElem? (i := 4) rfl)
theorem dX6_fixedOnes_5 : decode cX6_fixedOnes 5 = .ok (.aload_n 0, 1) := DX6_fixedOnes (5, .aload_n 0, 1) (List.mem_of_getElem? (i := 5) rfl)
theorem dX6_fixedOnes_6 : decode cX6_fixedOnes 6 = .ok (.getfield 24, 3) := DX6_fixedOnes (6, .getfield 24, 3) (List.mem_of_getElem? (i := 6) rfl)
theorem dX6_fixedOnes_9 : decode cX6_fixedOnes 9 = .ok (.if_icmp .ge 25, 3) := DX6_fixedOnes (9, .if_icmp .ge 25, 3) (List.mem_of_getElem? (i := 7) rfl)
theorem dX6_fixedOnes_12 : decode cX6_fixedOnes 12 = .ok (.aload_n 0, 1) := DX6_fixedOnes (12, .aload_n 0, 1) (List.mem_of_getElem? (i := 8) rfl)
theorem dX6_fixedOnes_13 : decode cX6_fixedOnes 13 = .ok (.getfield 9, 3) := DX6_fixedOnes (13, .getfield 9, 3) (List.mem_of_getElem? (i := 9) rfl)
theorem dX6_fixedOnes_16 : decode cX6_fixedOnes 16 = .ok (.iload_n 2, 1) := DX6_fixedOnes (16, .iload_n 2, 1) (List.mem_of_getElem? (i := 10) rfl)
theorem dX6_fixedOnes_17 : decode cX6_fixedOnes 17 = .ok (.iaload, 1) := DX6_fixedOnes (17, .iaload, 1) (List.mem_of_getElem? (i := 11) rfl)
theorem dX6_fixedOnes_18 : decode cX6_fixedOnes 18 = .ok (.iconst 5, 1) := DX6_fixedOnes (18, .iconst 5, 1) (List.mem_of_getElem? (i := 12) rfl)
theorem dX6_fixedOnes_19 : decode cX6_fixedOnes 19 = .ok (.if_icmp .ne 9, 3) := DX6_fixedOnes (19, .if_icmp .ne 9, 3) (List.mem_of_getElem? (i := 13) rfl)
theorem dX6_fixedOnes_22 : decode cX6_fixedOnes 22 = .ok (.iload_n 1, 1) := DX6_fixedOnes (22, .iload_n 1, 1) (List.mem_of_getElem? (i := 14) rfl)
theorem dX6_fixedOnes_23 : decode cX6_fixedOnes 23 = .ok (.iconst 1, 1) := DX6_fixedOnes (23, .iconst 1, 1) (List.mem_of_getElem? (i := 15) rfl)
theorem dX6_fixedOnes_24 : decode cX6_fixedOnes 24 = .ok (.iload_n 2, 1) := DX6_fixedOnes (24, .iload_n 2, 1) (List.mem_of_getElem? (i := 16) rfl)
theorem dX6_fixedOnes_25 : decode cX6_fixedOnes 25 = .ok (.ishl, 1) := DX6_fixedOnes (25, .ishl, 1) (List.mem_of_getElem? (i := 17) rfl)
theorem dX6_fixedOnes_26 : decode cX6_fixedOnes 26 = .ok (.ior, 1) := DX6_fixedOnes (26, .ior, 1) (List.mem_of_getElem? (i := 18) rfl)
theorem dX6_fixedOnes_27 : decode cX6_fixedOnes 27 = .ok (.istore_n 1, 1) := DX6_fixedOnes (27, .istore_n 1, 1) (List.mem_of_getElem? (i := 19) rfl)
theorem dX6_fixedOnes_28 : decode cX6_fixedOnes 28 = .ok (.iinc 2 1, 3) := DX6_fixedOnes (28, .iinc 2 1, 3) (List.mem_of_getElem? (i := 20) rfl)
theorem dX6_fixedOnes_31 : decode cX6_fixedOnes 31 = .ok (.goto (-27), 3) := DX6_fixedOnes (31, .goto (-27), 3) (List.mem_of_getElem? (i := 21) rfl)
theorem dX6_fixedOnes_34 : decode cX6_fixedOnes 34 = .ok (.iload_n 1, 1) := DX6_fixedOnes (34, .iload_n 1, 1) (List.mem_of_getElem? (i := 22) rfl)
theorem dX6_fixedOnes_35 : decode cX6_fixedOnes 35 = .ok (.ireturn, 1) := DX6_fixedOnes (35, .ireturn, 1) (List.mem_of_getElem? (i := 23) rfl)
set_option maxRecDepth 100000 in
theorem DX6_owes : ∀ q ∈ ([(0, .aload_n 0, 1), (1, .iload_n 1, 1), (2, .invokevirtual 83, 3), (5, .istore_n 2, 1), (6, .aload_n 0, 1), (7, .getfield 55, 3), (10, .iconst 0, 1), (11, .aload_n 0, 1), (12, .getfield 52, 3), (15, .invokevirtual 86, 3), (18, .istore_n 3, 1), (19, .iconst 3, 1), (20, .iload_n 2, 1), (21, .imul, 1), (22, .istore 4, 2), (24, .iload_n 3, 1), (25, .ifCond .lt 28, 3), (28, .aload_n 0, 1), (29, .getfield 55, 3), (32, .iload_n 3, 1), (33, .iload_n 2, 1), (34, .aload_n 0, 1), (35, .getfield 21, 3), (38, .iload_n 1, 1), (39, .iaload, 1), (40, .invokestatic 65, 3), (43, .aload_n 0, 1), (44, .iload_n 1, 1), (45, .invokevirtual 91, 3), (48, .invokevirtual 94, 3), (51, .istore 4, 2), (53, .iconst 0, 1), (54, .iload 4, 2), (56, .sipush 999, 3), (59, .invokestatic 98, 3), (62, .invokestatic 101, 3), (65, .istore 4, 2), (67, .aload_n 0, 1), (68, .getfield 9, 3), (71, .iload_n 1, 1), (72, .iaload, 1), (73, .iload 4, 2), (75, .invokestatic 104, 3), (78, .ireturn, 1)] : List (Nat × Instr × Nat)), decode cX6_owes q.1 = .ok (q.2.1, q.2.2) := by decide +kernel
theorem dX6_owes_0 : decode cX6_owes 0 = .ok (.aload_n 0, 1) := DX6_owes (0, .aload_n 0, 1) (List.mem_of_getElem? (i := 0) rfl)
theorem dX6_owes_1 : decode cX6_owes 1 = .ok (.iload_n 1, 1) := DX6_owes (1, .iload_n 1, 1) (List.mem_of_getElem? (i := 1) rfl)
theorem dX6_owes_2 : decode cX6_owes 2 = .ok (.invokevirtual 83, 3) := DX6_owes (2, .invokevirtual 83, 3) (List.mem_of_getElem? (i := 2) rfl)
theorem dX6_owes_5 : decode cX6_owes 5 = .ok (.istore_n 2, 1) := DX6_owes (5, .istore_n 2, 1) (List.mem_of_getElem? (i := 3) rfl)
theorem dX6_owes_6 : decode cX6_owes 6 = .ok (.aload_n 0, 1) := DX6_owes (6, .aload_n 0, 1) (List.mem_of_getElem? (i := 4) rfl)
theorem dX6_owes_7 : decode cX6_owes 7 = .ok (.getfield 55, 3) := DX6_owes (7, .getfield 55, 3) (List.mem_of_getElem? (i := 5) rfl)
theorem dX6_owes_10 : decode cX6_owes 10 = .ok (.iconst 0, 1) := DX6_owes (10, .iconst 0, 1) (List.mem_of_getElem? (i := 6) rfl)
theorem dX6_owes_11 : decode cX6_owes 11 = .ok (.aload_n 0, 1) := DX6_owes (11, .aload_n 0, 1) (List.mem_of_getElem? (i := 7) rfl)
theorem dX6_owes_12 : decode cX6_owes 12 = .ok (.getfield 52, 3) := DX6_owes (12, .getfield 52, 3) (List.mem_of_getElem? (i := 8) rfl)
theorem dX6_owes_15 : decode cX6_owes 15 = .ok (.invokevirtual 86, 3) := DX6_owes (15, .invokevirtual 86, 3) (List.mem_of_getElem? (i := 9) rfl)
theorem dX6_owes_18 : decode cX6_owes 18 = .ok (.istore_n 3, 1) := DX6_owes (18, .istore_n 3, 1) (List.mem_of_getElem? (i := 10) rfl)
theorem dX6_owes_19 : decode cX6_owes 19 = .ok (.iconst 3, 1) := DX6_owes (19, .iconst 3, 1) (List.mem_of_getElem? (i := 11) rfl)
theorem dX6_owes_20 : decode cX6_owes 20 = .ok (.iload_n 2, 1) := DX6_owes (20, .iload_n 2, 1) (List.mem_of_getElem? (i := 12) rfl)
theorem dX6_owes_21 : decode cX6_owes 21 = .ok (.imul, 1) := DX6_owes (21, .imul, 1) (List.mem_of_getElem? (i := 13) rfl)
theorem dX6_owes_22 : decode cX6_owes 22 = .ok (.istore 4, 2) := DX6_owes (22, .istore 4, 2) (List.mem_of_getElem? (i := 14) rfl)
theorem dX6_owes_24 : decode cX6_owes 24 = .ok (.iload_n 3, 1) := DX6_owes (24, .iload_n 3, 1) (List.mem_of_getElem? (i := 15) rfl)
theorem dX6_owes_25 : decode cX6_owes 25 = .ok (.ifCond .lt 28, 3) := DX6_owes (25, .ifCond .lt 28, 3) (List.mem_of_getElem? (i := 16) rfl)
theorem dX6_owes_28 : decode cX6_owes 28 = .ok (.aload_n 0, 1) := DX6_owes (28, .aload_n 0, 1) (List.mem_of_getElem? (i := 17) rfl)
theorem dX6_owes_29 : decode cX6_owes 29 = .ok (.getfield 55, 3) := DX6_owes (29, .getfield 55, 3) (List.mem_of_getElem? (i := 18) rfl)
theorem dX6_owes_32 : decode cX6_owes 32 = .ok (.iload_n 3, 1) := DX6_owes (32, .iload_n 3, 1) (List.mem_of_getElem? (i := 19) rfl)
theorem dX6_owes_33 : decode cX6_owes 33 = .ok (.iload_n 2, 1) := DX6_owes (33, .iload_n 2, 1) (List.mem_of_getElem? (i := 20) rfl)
theorem dX6_owes_34 : decode cX6_owes 34 = .ok (.aload_n 0, 1) := DX6_owes (34, .aload_n 0, 1) (List.mem_of_getElem? (i := 21) rfl)
theorem dX6_owes_35 : decode cX6_owes 35 = .ok (.getfield 21, 3) := DX6_owes (35, .getfield 21, 3) (List.mem_of_getElem? (i := 22) rfl)
theorem dX6_owes_38 : decode cX6_owes 38 = .ok (.iload_n 1, 1) := DX6_owes (38, .iload_n 1, 1) (List.mem_of_getElem? (i := 23) rfl)
theorem dX6_owes_39 : decode cX6_owes 39 = .ok (.iaload, 1) := DX6_owes (39, .iaload, 1) (List.mem_of_getElem? (i := 24) rfl)
theorem dX6_owes_40 : decode cX6_owes 40 = .ok (.invokestatic 65, 3) := DX6_owes (40, .invokestatic 65, 3) (List.mem_of_getElem? (i := 25) rfl)
theorem dX6_owes_43 : decode cX6_owes 43 = .ok (.aload_n 0, 1) := DX6_owes (43, .aload_n 0, 1) (List.mem_of_getElem? (i := 26) rfl)
theorem dX6_owes_44 : decode cX6_owes 44 = .ok (.iload_n 1, 1) := DX6_owes (44, .iload_n 1, 1) (List.mem_of_getElem? (i := 27) rfl)
theorem dX6_owes_45 : decode cX6_owes 45 = .ok (.invokevirtual 91, 3) := DX6_owes (45, .invokevirtual 91, 3) (List.mem_of_getElem? (i := 28) rfl)
theorem dX6_owes_48 : decode cX6_owes 48 = .ok (.invokevirtual 94, 3) := DX6_owes (48, .invokevirtual 94, 3) (List.mem_of_getElem? (i := 29) rfl)
theorem dX6_owes_51 : decode cX6_owes 51 = .ok (.istore 4, 2) := DX6_owes (51, .istore 4, 2) (List.mem_of_getElem? (i := 30) rfl)
theorem dX6_owes_53 : decode cX6_owes 53 = .ok (.iconst 0, 1) := DX6_owes (53, .iconst 0, 1) (List.mem_of_getElem? (i := 31) rfl)
theorem dX6_owes_54 : decode cX6_owes 54 = .ok (.iload 4, 2) := DX6_owes (54, .iload 4, 2) (List.mem_of_getElem? (i := 32) rfl)
theorem dX6_owes_56 : decode cX6_owes 56 = .ok (.sipush 999, 3) := DX6_owes (56, .sipush 999, 3) (List.mem_of_getElem? (i := 33) rfl)
theorem dX6_owes_59 : decode cX6_owes 59 = .ok (.invokestatic 98, 3) := DX6_owes (59, .invokestatic 98, 3) (List.mem_of_getElem? (i := 34) rfl)
theorem dX6_owes_62 : decode cX6_owes 62 = .ok (.invokestatic 101, 3) := DX6_owes (62, .invokestatic 101, 3) (List.mem_of_getElem? (i := 35) rfl)
theorem dX6_owes_65 : decode cX6_owes 65 = .ok (.istore 4, 2) := DX6_owes (65, .istore 4, 2) (List.mem_of_getElem? (i := 36) rfl)
theorem dX6_owes_67 : decode cX6_owes 67 = .ok (.aload_n 0, 1) := DX6_owes (67, .aload_n 0, 1) (List.mem_of_getElem? (i := 37) rfl)
theorem dX6_owes_68 : decode cX6_owes 68 = .ok (.getfield 9, 3) := DX6_owes (68, .getfield 9, 3) (List.mem_of_getElem? (i := 38) rfl)
theorem dX6_owes_71 : decode cX6_owes 71 = .ok (.iload_n 1, 1) := DX6_owes (71, .iload_n 1, 1) (List.mem_of_getElem? (i := 39) rfl)
theorem dX6_owes_72 : decode cX6_owes 72 = .ok (.iaload, 1) := DX6_owes (72, .iaload, 1) (List.mem_of_getElem? (i := 40) rfl)
theorem dX6_owes_73 : decode cX6_owes 73 = .ok (.iload 4, 2) := DX6_owes (73, .iload 4, 2) (List.mem_of_getElem? (i := 41) rfl)
theorem dX6_owes_75 : decode cX6_owes 75 = .ok (.invokestatic 104, 3) := DX6_owes (75, .invokestatic 104, 3) (List.mem_of_getElem? (i := 42) rfl)
theorem dX6_owes_78 : decode cX6_owes 78 = .ok (.ireturn, 1) := DX6_owes (78, .ireturn, 1) (List.mem_of_getElem? (i := 43) rfl)
set_option maxRecDepth 100000 in
theorem DX6_asks : ∀ q ∈ ([(0, .aload_n 0, 1), (1, .getfield 9, 3), (4, .iload_n 1, 1), (5, .iaload, 1), (6, .aload_n 0, 1), (7, .getfield 15, 3), (10, .iload_n 1, 1), (11, .iaload, 1), (12, .invokestatic 109, 3), (15, .ireturn, 1)] : List (Nat × Instr × Nat)), decode cX6_asks q.1 = .ok (q.2.1, q.2.2) := by decide +kernel
theorem dX6_asks_0 : decode cX6_asks 0 = .ok (.aload_n 0, 1) := DX6_asks (0, .aload_n 0, 1) (List.mem_of_getElem? (i := 0) rfl)
theorem dX6_asks_1 : decode cX6_asks 1 = .ok (.getfield 9, 3) := DX6_asks (1, .getfield 9, 3) (List.mem_of_getElem? (i := 1) rfl)
theorem dX6_asks_4 : decode cX6_asks 4 = .ok (.iload_n 1, 1) := DX6_asks (4, .iload_n 1, 1) (List.mem_of_getElem? (i := 2) rfl)
theorem dX6_asks_5 : decode cX6_asks 5 = .ok (.iaload, 1) := DX6_asks (5, .iaload, 1) (List.mem_of_getElem? (i := 3) rfl)
theorem dX6_asks_6 : decode cX6_asks 6 = .ok (.aload_n 0, 1) := DX6_asks (6, .aload_n 0, 1) (List.mem_of_getElem? (i := 4) rfl)
theorem dX6_asks_7 : decode cX6_asks 7 = .ok (.getfield 15, 3) := DX6_asks (7, .getfield 15, 3) (List.mem_of_getElem? (i := 5) rfl)
theorem dX6_asks_10 : decode cX6_asks 10 = .ok (.iload_n 1, 1) := DX6_asks (10, .iload_n 1, 1) (List.mem_of_getElem? (i := 6) rfl)
theorem dX6_asks_11 : decode cX6_asks 11 = .ok (.iaload, 1) := DX6_asks (11, .iaload, 1) (List.mem_of_getElem? (i := 7) rfl)
theorem dX6_asks_12 : decode cX6_asks 12 = .ok (.invokestatic 109, 3) := DX6_asks (12, .invokestatic 109, 3) (List.mem_of_getElem? (i := 8) rfl)
theorem dX6_asks_15 : decode cX6_asks 15 = .ok (.ireturn, 1) := DX6_asks (15, .ireturn, 1) (List.mem_of_getElem? (i := 9) rfl)
set_option maxRecDepth 100000 in
theorem DX6_draw : ∀ q ∈ ([(0, .aload_n 0, 1), (1, .aload_n 0, 1), (2, .getfield 49, 3), (5, .ldc 112, 2), (7, .imul, 1), (8, .sipush 12345, 3), (11, .iadd, 1), (12, .putfield 49, 3), (15, .aload_n 0, 1), (16, .getfield 49, 3), (19, .bipush 8, 2), (21, .iushr, 1), (22, .ireturn, 1)] : List (Nat × Instr × Nat)), decode cX6_draw q.1 = .ok (q.2.1, q.2.2) := by decide +kernel
theorem dX6_draw_0 : decode cX6_draw 0 = .ok (.aload_n 0, 1) := DX6_draw (0, .aload_n 0, 1) (List.mem_of_getElem? (i := 0) rfl)
theorem dX6_draw_1 : decode cX6_draw 1 = .ok (.aload_n 0, 1) := DX6_draw (1, .aload_n 0, 1) (List.mem_of_getElem? (i := 1) rfl)
theorem dX6_draw_2 : decode cX6_draw 2 = .ok (.getfield 49, 3) := DX6_draw (2, .getfield 49, 3) (List.mem_of_getElem? (i := 2) rfl)
theorem dX6_draw_5 : decode cX6_draw 5 = .ok (.ldc 112, 2) := DX6_draw (5, .ldc 112, 2) (List.mem_of_getElem? (i := 3) rfl)
theorem dX6_draw_7 : decode cX6_draw 7 = .ok (.imul, 1) := DX6_draw (7, .imul, 1) (List.mem_of_getElem? (i := 4) rfl)
theorem dX6_draw_8 : decode cX6_draw 8 = .ok (.sipush 12345, 3) := DX6_draw (8, .sipush 12345, 3) (List.mem_of_getElem? (i := 5) rfl)
theorem dX6_draw_11 : decode cX6_draw 11 = .ok (.iadd, 1) := DX6_draw (11, .iadd, 1) (List.mem_of_getElem? (i := 6) rfl)
theorem dX6_draw_12 : decode cX6_draw 12 = .ok (.putfield 49, 3) := DX6_draw (12, .putfield 49, 3) (List.mem_of_getElem? (i := 7) rfl)
theorem dX6_draw_15 : decode cX6_draw 15 = .ok (.aload_n 0, 1) := DX6_draw (15, .aload_n 0, 1) (List.mem_of_getElem? (i := 8) rfl)
theorem dX6_draw_16 : decode cX6_draw 16 = .ok (.getfield 49, 3) := DX6_draw (16, .getfield 49, 3) (List.mem_of_getElem? (i := 9) rfl)
theorem dX6_draw_19 : decode cX6_draw 19 = .ok (.bipush 8, 2) := DX6_draw (19, .bipush 8, 2) (List.mem_of_getElem? (i := 10) rfl)
theorem dX6_draw_21 : decode cX6_draw 21 = .ok (.iushr, 1) := DX6_draw (21, .iushr, 1) (List.mem_of_getElem? (i := 11) rfl)
theorem dX6_draw_22 : decode cX6_draw 22 = .ok (.ireturn, 1) := DX6_draw (22, .ireturn, 1) (List.mem_of_getElem? (i := 12) rfl)
set_option maxRecDepth 100000 in
theorem DX6_pass : ∀ q ∈ ([(0, .iconst 0, 1), (1, .istore_n 2, 1), (2, .iload_n 2, 1), (3, .iload_n 1, 1), (4, .if_icmp .ge 35, 3), (7, .aload_n 0, 1), (8, .invokevirtual 113, 3), (11, .aload_n 0, 1), (12, .aload_n 0, 1), (13, .invokevirtual 116, 3), (16, .invokevirtual 120, 3), (19, .aload_n 0, 1), (20, .invokevirtual 124, 3), (23, .aload_n 0, 1), (24, .dup, 1), (25, .getfield 46, 3), (28, .iconst 1, 1), (29, .iadd, 1), (30, .putfield 46, 3), (33, .iinc 2 1, 3), (36, .goto (-34), 3), (39, .return_, 1)] : List (Nat × Instr × Nat)), decode cX6_pass q.1 = .ok (q.2.1, q.2.2) := by decide +kernel
theorem dX6_pass_0 : decode cX6_pass 0 = .ok (.iconst 0, 1) := DX6_pass (0, .iconst 0, 1) (List.mem_of_getElem? (i := 0) rfl)
theorem dX6_pass_1 : decode cX6_pass 1 = .ok (.istore_n 2, 1) := DX6_pass (1, .istore_n 2, 1) (List.mem_of_getElem? (i := 1) rfl)
theorem dX6_pass_2 : decode cX6_pass 2 = .ok (.iload_n 2, 1) := DX6_pass (2, .iload_n 2, 1) (List.mem_of_getElem? (i := 2) rfl)
theorem dX6_pass_3 : decode cX6_pass 3 = .ok (.iload_n 1, 1) := DX6_pass (3, .iload_n 1, 1) (List.mem_of_getElem? (i := 3) rfl)
theorem dX6_pass_4 : decode cX6_pass 4 = .ok (.if_icmp .ge 35, 3) := DX6_pass (4, .if_icmp .ge 35, 3) (List.mem_of_getElem? (i := 4) rfl)
theorem dX6_pass_7 : decode cX6_pass 7 = .ok (.aload_n 0, 1) := DX6_pass (7, .aload_n 0, 1) (List.mem_of_getElem? (i := 5) rfl)
theorem dX6_pass_8 : decode cX6_pass 8 = .ok (.invokevirtual 113, 3) := DX6_pass (8, .invokevirtual 113, 3) (List.mem_of_getElem? (i := 6) rfl)
theorem dX6_pass_11 : decode cX6_pass 11 = .ok (.aload_n 0, 1) := DX6_pass (11, .aload_n 0, 1) (List.mem_of_getElem? (i := 7) rfl)
theorem dX6_pass_12 : decode cX6_pass 12 = .ok (.aload_n 0, 1) := DX6_pass (12, .aload_n 0, 1) (List.mem_of_getElem? (i := 8) rfl)
theorem dX6_pass_13 : decode cX6_pass 13 = .ok (.invokevirtual 116, 3) := DX6_pass (13, .invokevirtual 116, 3) (List.mem_of_getElem? (i := 9) rfl)
theorem dX6_pass_16 : decode cX6_pass 16 = .ok (.invokevirtual 120, 3) := DX6_pass (16, .invokevirtual 120, 3) (List.mem_of_getElem? (i := 10) rfl)
theorem dX6_pass_19 : decode cX6_pass 19 = .ok (.aload_n 0, 1) := DX6_pass (19, .aload_n 0, 1) (List.mem_of_getElem? (i := 11) rfl)
theorem dX6_pass_20 : decode cX6_pass 20 = .ok (.invokevirtual 124, 3) := DX6_pass (20, .invokevirtual 124, 3) (List.mem_of_getElem? (i := 12) rfl)
theorem dX6_pass_23 : decode cX6_pass 23 = .ok (.aload_n 0, 1) := DX6_pass (23, .aload_n 0, 1) (List.mem_of_getElem? (i := 13) rfl)
theorem dX6_pass_24 : decode cX6_pass 24 = .ok (.dup, 1) := DX6_pass (24, .dup, 1) (List.mem_of_getElem? (i := 14) rfl)
theorem dX6_pass_25 : decode cX6_pass 25 = .ok (.getfield 46, 3) := DX6_pass (25, .getfield 46, 3) (List.mem_of_getElem? (i := 15) rfl)
theorem dX6_pass_28 : decode cX6_pass 28 = .ok (.iconst 1, 1) := DX6_pass (28, .iconst 1, 1) (List.mem_of_getElem? (i := 16) rfl)
theorem dX6_pass_29 : decode cX6_pass 29 = .ok (.iadd, 1) := DX6_pass (29, .iadd, 1) (List.mem_of_getElem? (i := 17) rfl)
theorem dX6_pass_30 : decode cX6_pass 30 = .ok (.putfield 46, 3) := DX6_pass (30, .putfield 46, 3) (List.mem_of_getElem? (i := 18) rfl)
theorem dX6_pass_33 : decode cX6_pass 33 = .ok (.iinc 2 1, 3) := DX6_pass (33, .iinc 2 1, 3) (List.mem_of_getElem? (i := 19) rfl)
theorem dX6_pass_36 : decode cX6_pass 36 = .ok (.goto (-34), 3) := DX6_pass (36, .goto (-34), 3) (List.mem_of_getElem? (i := 20) rfl)
theorem dX6_pass_39 : decode cX6_pass 39 = .ok (.return_, 1) := DX6_pass (39, .return_, 1) (List.mem_of_getElem? (i := 21) rfl)
set_option maxRecDepth 100000 in
theorem DX6_pay : ∀ q ∈ ([(0, .aload_n 0, 1), (1, .getfield 18, 3), (4, .iload_n 1, 1), (5, .sipush (-9999), 3), (8, .aload_n 0, 1), (9, .getfield 18, 3), (12, .iload_n 1, 1), (13, .iaload, 1), (14, .iload_n 2, 1), (15, .isub, 1), (16, .invokestatic 101, 3), (19, .iastore, 1), (20, .aload_n 0, 1), (21, .dup, 1), (22, .getfield 40, 3), (25, .iload_n 2, 1), (26, .iadd, 1), (27, .putfield 40, 3), (30, .return_, 1)] : List (Nat × Instr × Nat)), decode cX6_pay q.1 = .ok (q.2.1, q.2.2) := by decide +kernel
theorem dX6_pay_0 : decode cX6_pay 0 = .ok (.aload_n 0, 1) := DX6_pay (0, .aload_n 0, 1) (List.mem_of_getElem? (i := 0) rfl)
theorem dX6_pay_1 : decode cX6_pay 1 = .ok (.getfield 18, 3) := DX6_pay (1, .getfield 18, 3) (List.mem_of_getElem? (i := 1) rfl)
theorem dX6_pay_4 : decode cX6_pay 4 = .ok (.iload_n 1, 1) := DX6_pay (4, .iload_n 1, 1) (List.mem_of_getElem? (i := 2) rfl)
theorem dX6_pay_5 : decode cX6_pay 5 = .ok (.sipush (-9999), 3) := DX6_pay (5, .sipush (-9999), 3) (List.mem_of_getElem? (i := 3) rfl)
theorem dX6_pay_8 : decode cX6_pay 8 = .ok (.aload_n 0, 1) := DX6_pay (8, .aload_n 0, 1) (List.mem_of_getElem? (i := 4) rfl)
theorem dX6_pay_9 : decode cX6_pay 9 = .ok (.getfield 18, 3) := DX6_pay (9, .getfield 18, 3) (List.mem_of_getElem? (i := 5) rfl)
theorem dX6_pay_12 : decode cX6_pay 12 = .ok (.iload_n 1, 1) := DX6_pay (12, .iload_n 1, 1) (List.mem_of_getElem? (i := 6) rfl)
theorem dX6_pay_13 : decode cX6_pay 13 = .ok (.iaload, 1) := DX6_pay (13, .iaload, 1) (List.mem_of_getElem? (i := 7) rfl)
theorem dX6_pay_14 : decode cX6_pay 14 = .ok (.iload_n 2, 1) := DX6_pay (14, .iload_n 2, 1) (List.mem_of_getElem? (i := 8) rfl)
theorem dX6_pay_15 : decode cX6_pay 15 = .ok (.isub, 1) := DX6_pay (15, .isub, 1) (List.mem_of_getElem? (i := 9) rfl)
theorem dX6_pay_16 : decode cX6_pay 16 = .ok (.invokestatic 101, 3) := DX6_pay (16, .invokestatic 101, 3) (List.mem_of_getElem? (i := 10) rfl)
theorem dX6_pay_19 : decode cX6_pay 19 = .ok (.iastore, 1) := DX6_pay (19, .iastore, 1) (List.mem_of_getElem? (i := 11) rfl)
theorem dX6_pay_20 : decode cX6_pay 20 = .ok (.aload_n 0, 1) := DX6_pay (20, .aload_n 0, 1) (List.mem_of_getElem? (i := 12) rfl)
theorem dX6_pay_21 : decode cX6_pay 21 = .ok (.dup, 1) := DX6_pay (21, .dup, 1) (List.mem_of_getElem? (i := 13) rfl)
theorem dX6_pay_22 : decode cX6_pay 22 = .ok (.getfield 40, 3) := DX6_pay (22, .getfield 40, 3) (List.mem_of_getElem? (i := 14) rfl)
theorem dX6_pay_25 : decode cX6_pay 25 = .ok (.iload_n 2, 1) := DX6_pay (25, .iload_n 2, 1) (List.mem_of_getElem? (i := 15) rfl)
theorem dX6_pay_26 : decode cX6_pay 26 = .ok (.iadd, 1) := DX6_pay (26, .iadd, 1) (List.mem_of_getElem? (i := 16) rfl)
theorem dX6_pay_27 : decode cX6_pay 27 = .ok (.putfield 40, 3) := DX6_pay (27, .putfield 40, 3) (List.mem_of_getElem? (i := 17) rfl)
theorem dX6_pay_30 : decode cX6_pay 30 = .ok (.return_, 1) := DX6_pay (30, .return_, 1) (List.mem_of_getElem? (i := 18) rfl)
set_option maxRecDepth 100000 in
theorem DX6_payDues : ∀ q ∈ ([(0, .iconst 0, 1), (1, .istore_n 1, 1), (2, .iload_n 1, 1), (3, .aload_n 0, 1), (4, .getfield 24, 3), (7, .if_icmp .ge 31, 3), (10, .aload_n 0, 1), (11, .iload_n 1, 1), (12, .invokevirtual 83, 3), (15, .aload_n 0, 1), (16, .getfield 31, 3), (19, .if_icmp .le 13, 3), (22, .aload_n 0, 1), (23, .iload_n 1, 1), (24, .aload_n 0, 1), (25, .iload_n 1, 1), (26, .invokevirtual 127, 3), (29, .invokevirtual 129, 3), (32, .iinc 1 1, 3), (35, .goto (-33), 3), (38, .return_, 1)] : List (Nat × Instr × Nat)), decode cX6_payDues q.1 = .ok (q.2.1, q.2.2) := by decide +kernel
theorem dX6_payDues_0 : decode cX6_payDues 0 = .ok (.iconst 0, 1) := DX6_payDues (0, .iconst 0, 1) (List.mem_of_getElem? (i := 0) rfl)
theorem dX6_payDues_1 : decode cX6_payDues 1 = .ok (.istore_n 1, 1) := DX6_payDues (1, .istore_n 1, 1) (List.mem_of_getElem? (i := 1) rfl)
theorem dX6_payDues_2 : decode cX6_payDues 2 = .ok (.iload_n 1, 1) := DX6_payDues (2, .iload_n 1, 1) (List.mem_of_getElem? (i := 2) rfl)
theorem dX6_payDues_3 : decode cX6_payDues 3 = .ok (.aload_n 0, 1) := DX6_payDues (3, .aload_n 0, 1) (List.mem_of_getElem? (i := 3) rfl)
theorem dX6_payDues_4 : decode cX6_payDues 4 = .ok (.getfield 24, 3) := DX6_payDues (4, .getfield 24, 3) (List.mem_of_getElem? (i := 4) rfl)
theorem dX6_payDues_7 : decode cX6_payDues 7 = .ok (.if_icmp .ge 31, 3) := DX6_payDues (7, .if_icmp .ge 31, 3) (List.mem_of_getElem? (i := 5) rfl)
theorem dX6_payDues_10 : decode cX6_payDues 10 = .ok (.aload_n 0, 1) := DX6_payDues (10, .aload_n 0, 1) (List.mem_of_getElem? (i := 6) rfl)
theorem dX6_payDues_11 : decode cX6_payDues 11 = .ok (.iload_n 1, 1) := DX6_payDues (11, .iload_n 1, 1) (List.mem_of_getElem? (i := 7) rfl)
theorem dX6_payDues_12 : decode cX6_payDues 12 = .ok (.invokevirtual 83, 3) := DX6_payDues (12, .invokevirtual 83, 3) (List.mem_of_getElem? (i := 8) rfl)
theorem dX6_payDues_15 : decode cX6_payDues 15 = .ok (.aload_n 0, 1) := DX6_payDues (15, .aload_n 0, 1) (List.mem_of_getElem? (i := 9) rfl)
theorem dX6_payDues_16 : decode cX6_payDues 16 = .ok (.getfield 31, 3) := DX6_payDues (16, .getfield 31, 3) (List.mem_of_getElem? (i := 10) rfl)
theorem dX6_payDues_19 : decode cX6_payDues 19 = .ok (.if_icmp .le 13, 3) := DX6_payDues (19, .if_icmp .le 13, 3) (List.mem_of_getElem? (i := 11) rfl)
theorem dX6_payDues_22 : decode cX6_payDues 22 = .ok (.aload_n 0, 1) := DX6_payDues (22, .aload_n 0, 1) (List.mem_of_getElem? (i := 12) rfl)
theorem dX6_payDues_23 : decode cX6_payDues 23 = .ok (.iload_n 1, 1) := DX6_payDues (23, .iload_n 1, 1) (List.mem_of_getElem? (i := 13) rfl)
theorem dX6_payDues_24 : decode cX6_payDues 24 = .ok (.aload_n 0, 1) := DX6_payDues (24, .aload_n 0, 1) (List.mem_of_getElem? (i := 14) rfl)
theorem dX6_payDues_25 : decode cX6_payDues 25 = .ok (.iload_n 1, 1) := DX6_payDues (25, .iload_n 1, 1) (List.mem_of_getElem? (i := 15) rfl)
theorem dX6_payDues_26 : decode cX6_payDues 26 = .ok (.invokevirtual 127, 3) := DX6_payDues (26, .invokevirtual 127, 3) (List.mem_of_getElem? (i := 16) rfl)
theorem dX6_payDues_29 : decode cX6_payDues 29 = .ok (.invokevirtual 129, 3) := DX6_payDues (29, .invokevirtual 129, 3) (List.mem_of_getElem? (i := 17) rfl)
theorem dX6_payDues_32 : decode cX6_payDues 32 = .ok (.iinc 1 1, 3) := DX6_payDues (32, .iinc 1 1, 3) (List.mem_of_getElem? (i := 18) rfl)
theorem dX6_payDues_35 : decode cX6_payDues 35 = .ok (.goto (-33), 3) := DX6_payDues (35, .goto (-33), 3) (List.mem_of_getElem? (i := 19) rfl)
theorem dX6_payDues_38 : decode cX6_payDues 38 = .ok (.return_, 1) := DX6_payDues (38, .return_, 1) (List.mem_of_getElem? (i := 20) rfl)
set_option maxRecDepth 100000 in
theorem DX6_lookedAt : ∀ q ∈ ([(0, .aload_n 0, 1), (1, .getfield 24, 3), (4, .ifCond .eq 10, 3), (7, .aload_n 0, 1), (8, .getfield 34, 3), (11, .ifCond .ne 5, 3), (14, .iconst (-1), 1), (15, .ireturn, 1), (16, .aload_n 0, 1), (17, .getfield 34, 3), (20, .iconst 1, 1), (21, .if_icmp .ne 10, 3), (24, .aload_n 0, 1), (25, .invokevirtual 133, 3), (28, .goto 12, 3), (31, .aload_n 0, 1), (32, .invokevirtual 136, 3), (35, .aload_n 0, 1), (36, .getfield 24, 3), (39, .irem, 1), (40, .ireturn, 1)] : List (Nat × Instr × Nat)), decode cX6_lookedAt q.1 = .ok (q.2.1, q.2.2) := by decide +kernel
theorem dX6_lookedAt_0 : decode cX6_lookedAt 0 = .ok (.aload_n 0, 1) := DX6_lookedAt (0, .aload_n 0, 1) (List.mem_of_getElem? (i := 0) rfl)
theorem dX6_lookedAt_1 : decode cX6_lookedAt 1 = .ok (.getfield 24, 3) := DX6_lookedAt (1, .getfield 24, 3) (List.mem_of_getElem? (i := 1) rfl)
theorem dX6_lookedAt_4 : decode cX6_lookedAt 4 = .ok (.ifCond .eq 10, 3) := DX6_lookedAt (4, .ifCond .eq 10, 3) (List.mem_of_getElem? (i := 2) rfl)
theorem dX6_lookedAt_7 : decode cX6_lookedAt 7 = .ok (.aload_n 0, 1) := DX6_lookedAt (7, .aload_n 0, 1) (List.mem_of_getElem? (i := 3) rfl)
theorem dX6_lookedAt_8 : decode cX6_lookedAt 8 = .ok (.getfield 34, 3) := DX6_lookedAt (8, .getfield 34, 3) (List.mem_of_getElem? (i := 4) rfl)
theorem dX6_lookedAt_11 : decode cX6_lookedAt 11 = .ok (.ifCond .ne 5, 3) := DX6_lookedAt (11, .ifCond .ne 5, 3) (List.mem_of_getElem? (i := 5) rfl)
theorem dX6_lookedAt_14 : decode cX6_lookedAt 14 = .ok (.iconst (-1), 1) := DX6_lookedAt (14, .iconst (-1), 1) (List.mem_of_getElem? (i := 6) rfl)
theorem dX6_lookedAt_15 : decode cX6_lookedAt 15 = .ok (.ireturn, 1) := DX6_lookedAt (15, .ireturn, 1) (List.mem_of_getElem? (i := 7) rfl)
theorem dX6_lookedAt_16 : decode cX6_lookedAt 16 = .ok (.aload_n 0, 1) := DX6_lookedAt (16, .aload_n 0, 1) (List.mem_of_getElem? (i := 8) rfl)
theorem dX6_lookedAt_17 : decode cX6_lookedAt 17 = .ok (.getfield 34, 3) := DX6_lookedAt (17, .getfield 34, 3) (List.mem_of_getElem? (i := 9) rfl)
theorem dX6_lookedAt_20 : decode cX6_lookedAt 20 = .ok (.iconst 1, 1) := DX6_lookedAt (20, .iconst 1, 1) (List.mem_of_getElem? (i := 10) rfl)
theorem dX6_lookedAt_21 : decode cX6_lookedAt 21 = .ok (.if_icmp .ne 10, 3) := DX6_lookedAt (21, .if_icmp .ne 10, 3) (List.mem_of_getElem? (i := 11) rfl)
theorem dX6_lookedAt_24 : decode cX6_lookedAt 24 = .ok (.aload_n 0, 1) := DX6_lookedAt (24, .aload_n 0, 1) (List.mem_of_getElem? (i := 12) rfl)
theorem dX6_lookedAt_25 : decode cX6_lookedAt 25 = .ok (.invokevirtual 133, 3) := DX6_lookedAt (25, .invokevirtual 133, 3) (List.mem_of_getElem? (i := 13) rfl)
theorem dX6_lookedAt_28 : decode cX6_lookedAt 28 = .ok (.goto 12, 3) := DX6_lookedAt (28, .goto 12, 3) (List.mem_of_getElem? (i := 14) rfl)
theorem dX6_lookedAt_31 : decode cX6_lookedAt 31 = .ok (.aload_n 0, 1) := DX6_lookedAt (31, .aload_n 0, 1) (List.mem_of_getElem? (i := 15) rfl)
theorem dX6_lookedAt_32 : decode cX6_lookedAt 32 = .ok (.invokevirtual 136, 3) := DX6_lookedAt (32, .invokevirtual 136, 3) (List.mem_of_getElem? (i := 16) rfl)
theorem dX6_lookedAt_35 : decode cX6_lookedAt 35 = .ok (.aload_n 0, 1) := DX6_lookedAt (35, .aload_n 0, 1) (List.mem_of_getElem? (i := 17) rfl)
theorem dX6_lookedAt_36 : decode cX6_lookedAt 36 = .ok (.getfield 24, 3) := DX6_lookedAt (36, .getfield 24, 3) (List.mem_of_getElem? (i := 18) rfl)
theorem dX6_lookedAt_39 : decode cX6_lookedAt 39 = .ok (.irem, 1) := DX6_lookedAt (39, .irem, 1) (List.mem_of_getElem? (i := 19) rfl)
theorem dX6_lookedAt_40 : decode cX6_lookedAt 40 = .ok (.ireturn, 1) := DX6_lookedAt (40, .ireturn, 1) (List.mem_of_getElem? (i := 20) rfl)
set_option maxRecDepth 100000 in
theorem DX6_worst : ∀ q ∈ ([(0, .iconst (-1), 1), (1, .istore_n 1, 1), (2, .iconst 0, 1), (3, .istore_n 2, 1), (4, .iconst 0, 1), (5, .istore_n 3, 1), (6, .iload_n 3, 1), (7, .aload_n 0, 1), (8, .getfield 24, 3), (11, .if_icmp .ge 26, 3), (14, .aload_n 0, 1), (15, .iload_n 3, 1), (16, .invokevirtual 83, 3), (19, .iload_n 2, 1), (20, .if_icmp .le 11, 3), (23, .aload_n 0, 1), (24, .iload_n 3, 1), (25, .invokevirtual 83, 3), (28, .istore_n 2, 1), (29, .iload_n 3, 1), (30, .istore_n 1, 1), (31, .iinc 3 1, 3), (34, .goto (-28), 3), (37, .iload_n 1, 1), (38, .ireturn, 1)] : List (Nat × Instr × Nat)), decode cX6_worst q.1 = .ok (q.2.1, q.2.2) := by decide +kernel
theorem dX6_worst_0 : decode cX6_worst 0 = .ok (.iconst (-1), 1) := DX6_worst (0, .iconst (-1), 1) (List.mem_of_getElem? (i := 0) rfl)
theorem dX6_worst_1 : decode cX6_worst 1 = .ok (.istore_n 1, 1) := DX6_worst (1, .istore_n 1, 1) (List.mem_of_getElem? (i := 1) rfl)
theorem dX6_worst_2 : decode cX6_worst 2 = .ok (.iconst 0, 1) := DX6_worst (2, .iconst 0, 1) (List.mem_of_getElem? (i := 2) rfl)
theorem dX6_worst_3 : decode cX6_worst 3 = .ok (.istore_n 2, 1) := DX6_worst (3, .istore_n 2, 1) (List.mem_of_getElem? (i := 3) rfl)
theorem dX6_worst_4 : decode cX6_worst 4 = .ok (.iconst 0, 1) := DX6_worst (4, .iconst 0, 1) (List.mem_of_getElem? (i := 4) rfl)
theorem dX6_worst_5 : decode cX6_worst 5 = .ok (.istore_n 3, 1) := DX6_worst (5, .istore_n 3, 1) (List.mem_of_getElem? (i := 5) rfl)
theorem dX6_worst_6 : decode cX6_worst 6 = .ok (.iload_n 3, 1) := DX6_worst (6, .iload_n 3, 1) (List.mem_of_getElem? (i := 6) rfl)
theorem dX6_worst_7 : decode cX6_worst 7 = .ok (.aload_n 0, 1) := DX6_worst (7, .aload_n 0, 1) (List.mem_of_getElem? (i := 7) rfl)
theorem dX6_worst_8 : decode cX6_worst 8 = .ok (.getfield 24, 3) := DX6_worst (8, .getfield 24, 3) (List.mem_of_getElem? (i := 8) rfl)
theorem dX6_worst_11 : decode cX6_worst 11 = .ok (.if_icmp .ge 26, 3) := DX6_worst (11, .if_icmp .ge 26, 3) (List.mem_of_getElem? (i := 9) rfl)
theorem dX6_worst_14 : decode cX6_worst 14 = .ok (.aload_n 0, 1) := DX6_worst (14, .aload_n 0, 1) (List.mem_of_getElem? (i := 10) rfl)
theorem dX6_worst_15 : decode cX6_worst 15 = .ok (.iload_n 3, 1) := DX6_worst (15, .iload_n 3, 1) (List.mem_of_getElem? (i := 11) rfl)
theorem dX6_worst_16 : decode cX6_worst 16 = .ok (.invokevirtual 83, 3) := DX6_worst (16, .invokevirtual 83, 3) (List.mem_of_getElem? (i := 12) rfl)
theorem dX6_worst_19 : decode cX6_worst 19 = .ok (.iload_n 2, 1) := DX6_worst (19, .iload_n 2, 1) (List.mem_of_getElem? (i := 13) rfl)
theorem dX6_worst_20 : decode cX6_worst 20 = .ok (.if_icmp .le 11, 3) := DX6_worst (20, .if_icmp .le 11, 3) (List.mem_of_getElem? (i := 14) rfl)
theorem dX6_worst_23 : decode cX6_worst 23 = .ok (.aload_n 0, 1) := DX6_worst (23, .aload_n 0, 1) (List.mem_of_getElem? (i := 15) rfl)
theorem dX6_worst_24 : decode cX6_worst 24 = .ok (.iload_n 3, 1) := DX6_worst (24, .iload_n 3, 1) (List.mem_of_getElem? (i := 16) rfl)
theorem dX6_worst_25 : decode cX6_worst 25 = .ok (.invokevirtual 83, 3) := DX6_worst (25, .invokevirtual 83, 3) (List.mem_of_getElem? (i := 17) rfl)
theorem dX6_worst_28 : decode cX6_worst 28 = .ok (.istore_n 2, 1) := DX6_worst (28, .istore_n 2, 1) (List.mem_of_getElem? (i := 18) rfl)
theorem dX6_worst_29 : decode cX6_worst 29 = .ok (.iload_n 3, 1) := DX6_worst (29, .iload_n 3, 1) (List.mem_of_getElem? (i := 19) rfl)
theorem dX6_worst_30 : decode cX6_worst 30 = .ok (.istore_n 1, 1) := DX6_worst (30, .istore_n 1, 1) (List.mem_of_getElem? (i := 20) rfl)
theorem dX6_worst_31 : decode cX6_worst 31 = .ok (.iinc 3 1, 3) := DX6_worst (31, .iinc 3 1, 3) (List.mem_of_getElem? (i := 21) rfl)
theorem dX6_worst_34 : decode cX6_worst 34 = .ok (.goto (-28), 3) := DX6_worst (34, .goto (-28), 3) (List.mem_of_getElem? (i := 22) rfl)
theorem dX6_worst_37 : decode cX6_worst 37 = .ok (.iload_n 1, 1) := DX6_worst (37, .iload_n 1, 1) (List.mem_of_getElem? (i := 23) rfl)
theorem dX6_worst_38 : decode cX6_worst 38 = .ok (.ireturn, 1) := DX6_worst (38, .ireturn, 1) (List.mem_of_getElem? (i := 24) rfl)
set_option maxRecDepth 100000 in
theorem DX6_persuade : ∀ q ∈ ([(0, .iload_n 1, 1), (1, .ifCond .lt 21, 3), (4, .iload_n 1, 1), (5, .aload_n 0, 1), (6, .getfield 24, 3), (9, .if_icmp .ge 13, 3), (12, .aload_n 0, 1), (13, .getfield 9, 3), (16, .iload_n 1, 1), (17, .iaload, 1), (18, .iconst 5, 1), (19, .if_icmp .ne 4, 3), (22, .return_, 1), (23, .aload_n 0, 1), (24, .getfield 21, 3), (27, .iload_n 1, 1), (28, .iaload, 1), (29, .iconst 1, 1), (30, .iload_n 1, 1), (31, .ishl, 1), (32, .ior, 1), (33, .istore_n 2, 1), (34, .aload_n 0, 1), (35, .iload_n 2, 1), (36, .aload_n 0, 1), (37, .getfield 28, 3), (40, .iconst 1, 1), (41, .iload_n 1, 1), (42, .ishl, 1), (43, .ixor, 1), (44, .invokevirtual 139, 3), (47, .aload_n 0, 1), (48, .iload_n 2, 1), (49, .aload_n 0, 1), (50, .getfield 28, 3), (53, .invokevirtual 139, 3), (56, .if_icmp .ge 28, 3), (59, .aload_n 0, 1), (60, .iload_n 1, 1), (61, .invokevirtual 142, 3), (64, .aload_n 0, 1), (65, .dup, 1), (66, .getfield 43, 3), (69, .iconst 1, 1), (70, .iadd, 1), (71, .putfield 43, 3), (74, .aload_n 0, 1), (75, .iload_n 1, 1), (76, .aload_n 0, 1), (77, .iload_n 1, 1), (78, .invokevirtual 145, 3), (81, .invokevirtual 129, 3), (84, .return_, 1)] : List (Nat × Instr × Nat)), decode cX6_persuade q.1 = .ok (q.2.1, q.2.2) := by decide +kernel
theorem dX6_persuade_0 : decode cX6_persuade 0 = .ok (.iload_n 1, 1) := DX6_persuade (0, .iload_n 1, 1) (List.mem_of_getElem? (i := 0) rfl)
theorem dX6_persuade_1 : decode cX6_persuade 1 = .ok (.ifCond .lt 21, 3) := DX6_persuade (1, .ifCond .lt 21, 3) (List.mem_of_getElem? (i := 1) rfl)
theorem dX6_persuade_4 : decode cX6_persuade 4 = .ok (.iload_n 1, 1) := DX6_persuade (4, .iload_n 1, 1) (List.mem_of_getElem? (i := 2) rfl)
theorem dX6_persuade_5 : decode cX6_persuade 5 = .ok (.aload_n 0, 1) := DX6_persuade (5, .aload_n 0, 1) (List.mem_of_getElem? (i := 3) rfl)
theorem dX6_persuade_6 : decode cX6_persuade 6 = .ok (.getfield 24, 3) := DX6_persuade (6, .getfield 24, 3) (List.mem_of_getElem? (i := 4) rfl)
theorem dX6_persuade_9 : decode cX6_persuade 9 = .ok (.if_icmp .ge 13, 3) := DX6_persuade (9, .if_icmp .ge 13, 3) (List.mem_of_getElem? (i := 5) rfl)
theorem dX6_persuade_12 : decode cX6_persuade 12 = .ok (.aload_n 0, 1) := DX6_persuade (12, .aload_n 0, 1) (List.mem_of_getElem? (i := 6) rfl)
theorem dX6_persuade_13 : decode cX6_persuade 13 = .ok (.getfield 9, 3) := DX6_persuade (13, .getfield 9, 3) (List.mem_of_getElem? (i := 7) rfl)
theorem dX6_persuade_16 : decode cX6_persuade 16 = .ok (.iload_n 1, 1) := DX6_persuade (16, .iload_n 1, 1) (List.mem_of_getElem? (i := 8) rfl)
theorem dX6_persuade_17 : decode cX6_persuade 17 = .ok (.iaload, 1) := DX6_persuade (17, .iaload, 1) (List.mem_of_getElem? (i := 9) rfl)
theorem dX6_persuade_18 : decode cX6_persuade 18 = .ok (.iconst 5, 1) := DX6_persuade (18, .iconst 5, 1) (List.mem_of_getElem? (i := 10) rfl)
theorem dX6_persuade_19 : decode cX6_persuade 19 = .ok (.if_icmp .ne 4, 3) := DX6_persuade (19, .if_icmp .ne 4, 3) (List.mem_of_getElem? (i := 11) rfl)
theorem dX6_persuade_22 : decode cX6_persuade 22 = .ok (.return_, 1) := DX6_persuade (22, .return_, 1) (List.mem_of_getElem? (i := 12) rfl)
theorem dX6_persuade_23 : decode cX6_persuade 23 = .ok (.aload_n 0, 1) := DX6_persuade (23, .aload_n 0, 1) (List.mem_of_getElem? (i := 13) rfl)
theorem dX6_persuade_24 : decode cX6_persuade 24 = .ok (.getfield 21, 3) := DX6_persuade (24, .getfield 21, 3) (List.mem_of_getElem? (i := 14) rfl)
theorem dX6_persuade_27 : decode cX6_persuade 27 = .ok (.iload_n 1, 1) := DX6_persuade (27, .iload_n 1, 1) (List.mem_of_getElem? (i := 15) rfl)
theorem dX6_persuade_28 : decode cX6_persuade 28 = .ok (.iaload, 1) := DX6_persuade (28, .iaload, 1) (List.mem_of_getElem? (i := 16) rfl)
theorem dX6_persuade_29 : decode cX6_persuade 29 = .ok (.iconst 1, 1) := DX6_persuade (29, .iconst 1, 1) (List.mem_of_getElem? (i := 17) rfl)
theorem dX6_persuade_30 : decode cX6_persuade 30 = .ok (.iload_n 1, 1) := DX6_persuade (30, .iload_n 1, 1) (List.mem_of_getElem? (i := 18) rfl)
theorem dX6_persuade_31 : decode cX6_persuade 31 = .ok (.ishl, 1) := DX6_persuade (31, .ishl, 1) (List.mem_of_getElem? (i := 19) rfl)
theorem dX6_persuade_32 : decode cX6_persuade 32 = .ok (.ior, 1) := DX6_persuade (32, .ior, 1) (List.mem_of_getElem? (i := 20) rfl)
theorem dX6_persuade_33 : decode cX6_persuade 33 = .ok (.istore_n 2, 1) := DX6_persuade (33, .istore_n 2, 1) (List.mem_of_getElem? (i := 21) rfl)
theorem dX6_persuade_34 : decode cX6_persuade 34 = .ok (.aload_n 0, 1) := DX6_persuade (34, .aload_n 0, 1) (List.mem_of_getElem? (i := 22) rfl)
theorem dX6_persuade_35 : decode cX6_persuade 35 = .ok (.iload_n 2, 1) := DX6_persuade (35, .iload_n 2, 1) (List.mem_of_getElem? (i := 23) rfl)
theorem dX6_persuade_36 : decode cX6_persuade 36 = .ok (.aload_n 0, 1) := DX6_persuade (36, .aload_n 0, 1) (List.mem_of_getElem? (i := 24) rfl)
theorem dX6_persuade_37 : decode cX6_persuade 37 = .ok (.getfield 28, 3) := DX6_persuade (37, .getfield 28, 3) (List.mem_of_getElem? (i := 25) rfl)
theorem dX6_persuade_40 : decode cX6_persuade 40 = .ok (.iconst 1, 1) := DX6_persuade (40, .iconst 1, 1) (List.mem_of_getElem? (i := 26) rfl)
theorem dX6_persuade_41 : decode cX6_persuade 41 = .ok (.iload_n 1, 1) := DX6_persuade (41, .iload_n 1, 1) (List.mem_of_getElem? (i := 27) rfl)
theorem dX6_persuade_42 : decode cX6_persuade 42 = .ok (.ishl, 1) := DX6_persuade (42, .ishl, 1) (List.mem_of_getElem? (i := 28) rfl)
theorem dX6_persuade_43 : decode cX6_persuade 43 = .ok (.ixor, 1) := DX6_persuade (43, .ixor, 1) (List.mem_of_getElem? (i := 29) rfl)
theorem dX6_persuade_44 : decode cX6_persuade 44 = .ok (.invokevirtual 139, 3) := DX6_persuade (44, .invokevirtual 139, 3) (List.mem_of_getElem? (i := 30) rfl)
theorem dX6_persuade_47 : decode cX6_persuade 47 = .ok (.aload_n 0, 1) := DX6_persuade (47, .aload_n 0, 1) (List.mem_of_getElem? (i := 31) rfl)
theorem dX6_persuade_48 : decode cX6_persuade 48 = .ok (.iload_n 2, 1) := DX6_persuade (48, .iload_n 2, 1) (List.mem_of_getElem? (i := 32) rfl)
theorem dX6_persuade_49 : decode cX6_persuade 49 = .ok (.aload_n 0, 1) := DX6_persuade (49, .aload_n 0, 1) (List.mem_of_getElem? (i := 33) rfl)
theorem dX6_persuade_50 : decode cX6_persuade 50 = .ok (.getfield 28, 3) := DX6_persuade (50, .getfield 28, 3) (List.mem_of_getElem? (i := 34) rfl)
theorem dX6_persuade_53 : decode cX6_persuade 53 = .ok (.invokevirtual 139, 3) := DX6_persuade (53, .invokevirtual 139, 3) (List.mem_of_getElem? (i := 35) rfl)
theorem dX6_persuade_56 : decode cX6_persuade 56 = .ok (.if_icmp .ge 28, 3) := DX6_persuade (56, .if_icmp .ge 28, 3) (List.mem_of_getElem? (i := 36) rfl)
theorem dX6_persuade_59 : decode cX6_persuade 59 = .ok (.aload_n 0, 1) := DX6_persuade (59, .aload_n 0, 1) (List.mem_of_getElem? (i := 37) rfl)
theorem dX6_persuade_60 : decode cX6_persuade 60 = .ok (.iload_n 1, 1) := DX6_persuade (60, .iload_n 1, 1) (List.mem_of_getElem? (i := 38) rfl)
theorem dX6_persuade_61 : decode cX6_persuade 61 = .ok (.invokevirtual 142, 3) := DX6_persuade (61, .invokevirtual 142, 3) (List.mem_of_getElem? (i := 39) rfl)
theorem dX6_persuade_64 : decode cX6_persuade 64 = .ok (.aload_n 0, 1) := DX6_persuade (64, .aload_n 0, 1) (List.mem_of_getElem? (i := 40) rfl)
theorem dX6_persuade_65 : decode cX6_persuade 65 = .ok (.dup, 1) := DX6_persuade (65, .dup, 1) (List.mem_of_getElem? (i := 41) rfl)
theorem dX6_persuade_66 : decode cX6_persuade 66 = .ok (.getfield 43, 3) := DX6_persuade (66, .getfield 43, 3) (List.mem_of_getElem? (i := 42) rfl)
theorem dX6_persuade_69 : decode cX6_persuade 69 = .ok (.iconst 1, 1) := DX6_persuade (69, .iconst 1, 1) (List.mem_of_getElem? (i := 43) rfl)
theorem dX6_persuade_70 : decode cX6_persuade 70 = .ok (.iadd, 1) := DX6_persuade (70, .iadd, 1) (List.mem_of_getElem? (i := 44) rfl)
theorem dX6_persuade_71 : decode cX6_persuade 71 = .ok (.putfield 43, 3) := DX6_persuade (71, .putfield 43, 3) (List.mem_of_getElem? (i := 45) rfl)
theorem dX6_persuade_74 : decode cX6_persuade 74 = .ok (.aload_n 0, 1) := DX6_persuade (74, .aload_n 0, 1) (List.mem_of_getElem? (i := 46) rfl)
theorem dX6_persuade_75 : decode cX6_persuade 75 = .ok (.iload_n 1, 1) := DX6_persuade (75, .iload_n 1, 1) (List.mem_of_getElem? (i := 47) rfl)
theorem dX6_persuade_76 : decode cX6_persuade 76 = .ok (.aload_n 0, 1) := DX6_persuade (76, .aload_n 0, 1) (List.mem_of_getElem? (i := 48) rfl)
theorem dX6_persuade_77 : decode cX6_persuade 77 = .ok (.iload_n 1, 1) := DX6_persuade (77, .iload_n 1, 1) (List.mem_of_getElem? (i := 49) rfl)
theorem dX6_persuade_78 : decode cX6_persuade 78 = .ok (.invokevirtual 145, 3) := DX6_persuade (78, .invokevirtual 145, 3) (List.mem_of_getElem? (i := 50) rfl)
theorem dX6_persuade_81 : decode cX6_persuade 81 = .ok (.invokevirtual 129, 3) := DX6_persuade (81, .invokevirtual 129, 3) (List.mem_of_getElem? (i := 51) rfl)
theorem dX6_persuade_84 : decode cX6_persuade 84 = .ok (.return_, 1) := DX6_persuade (84, .return_, 1) (List.mem_of_getElem? (i := 52) rfl)
set_option maxRecDepth 100000 in
theorem DX6_offOfAll : ∀ q ∈ ([(0, .iconst 0, 1), (1, .istore_n 3, 1), (2, .iconst 0, 1), (3, .istore 4, 2), (5, .iload 4, 2), (7, .aload_n 0, 1), (8, .getfield 24, 3), (11, .if_icmp .ge 29, 3), (14, .iload_n 1, 1), (15, .iload 4, 2), (17, .ishr, 1), (18, .iconst 1, 1), (19, .iand, 1), (20, .iconst 1, 1), (21, .if_icmp .ne 13, 3), (24, .iload_n 3, 1), (25, .aload_n 0, 1), (26, .iload 4, 2), (28, .iload_n 2, 1), (29, .invokevirtual 80, 3), (32, .iadd, 1), (33, .istore_n 3, 1), (34, .iinc 4 1, 3), (37, .goto (-32), 3), (40, .iload_n 3, 1), (41, .ireturn, 1)] : List (Nat × Instr × Nat)), decode cX6_offOfAll q.1 = .ok (q.2.1, q.2.2) := by decide +kernel
theorem dX6_offOfAll_0 : decode cX6_offOfAll 0 = .ok (.iconst 0, 1) := DX6_offOfAll (0, .iconst 0, 1) (List.mem_of_getElem? (i := 0) rfl)
theorem dX6_offOfAll_1 : decode cX6_offOfAll 1 = .ok (.istore_n 3, 1) := DX6_offOfAll (1, .istore_n 3, 1) (List.mem_of_getElem? (i := 1) rfl)
theorem dX6_offOfAll_2 : decode cX6_offOfAll 2 = .ok (.iconst 0, 1) := DX6_offOfAll (2, .iconst 0, 1) (List.mem_of_getElem? (i := 2) rfl)
theorem dX6_offOfAll_3 : decode cX6_offOfAll 3 = .ok (.istore 4, 2) := DX6_offOfAll (3, .istore 4, 2) (List.mem_of_getElem? (i := 3) rfl)
theorem dX6_offOfAll_5 : decode cX6_offOfAll 5 = .ok (.iload 4, 2) := DX6_offOfAll (5, .iload 4, 2) (List.mem_of_getElem? (i := 4) rfl)
theorem dX6_offOfAll_7 : decode cX6_offOfAll 7 = .ok (.aload_n 0, 1) := DX6_offOfAll (7, .aload_n 0, 1) (List.mem_of_getElem? (i := 5) rfl)
theorem dX6_offOfAll_8 : decode cX6_offOfAll 8 = .ok (.getfield 24, 3) := DX6_offOfAll (8, .getfield 24, 3) (List.mem_of_getElem? (i := 6) rfl)
theorem dX6_offOfAll_11 : decode cX6_offOfAll 11 = .ok (.if_icmp .ge 29, 3) := DX6_offOfAll (11, .if_icmp .ge 29, 3) (List.mem_of_getElem? (i := 7) rfl)
theorem dX6_offOfAll_14 : decode cX6_offOfAll 14 = .ok (.iload_n 1, 1) := DX6_offOfAll (14, .iload_n 1, 1) (List.mem_of_getElem? (i := 8) rfl)
theorem dX6_offOfAll_15 : decode cX6_offOfAll 15 = .ok (.iload 4, 2) := DX6_offOfAll (15, .iload 4, 2) (List.mem_of_getElem? (i := 9) rfl)
theorem dX6_offOfAll_17 : decode cX6_offOfAll 17 = .ok (.ishr, 1) := DX6_offOfAll (17, .ishr, 1) (List.mem_of_getElem? (i := 10) rfl)
theorem dX6_offOfAll_18 : decode cX6_offOfAll 18 = .ok (.iconst 1, 1) := DX6_offOfAll (18, .iconst 1, 1) (List.mem_of_getElem? (i := 11) rfl)
theorem dX6_offOfAll_19 : decode cX6_offOfAll 19 = .ok (.iand, 1) := DX6_offOfAll (19, .iand, 1) (List.mem_of_getElem? (i := 12) rfl)
theorem dX6_offOfAll_20 : decode cX6_offOfAll 20 = .ok (.iconst 1, 1) := DX6_offOfAll (20, .iconst 1, 1) (List.mem_of_getElem? (i := 13) rfl)
theorem dX6_offOfAll_21 : decode cX6_offOfAll 21 = .ok (.if_icmp .ne 13, 3) := DX6_offOfAll (21, .if_icmp .ne 13, 3) (List.mem_of_getElem? (i := 14) rfl)
theorem dX6_offOfAll_24 : decode cX6_offOfAll 24 = .ok (.iload_n 3, 1) := DX6_offOfAll (24, .iload_n 3, 1) (List.mem_of_getElem? (i := 15) rfl)
theorem dX6_offOfAll_25 : decode cX6_offOfAll 25 = .ok (.aload_n 0, 1) := DX6_offOfAll (25, .aload_n 0, 1) (List.mem_of_getElem? (i := 16) rfl)
theorem dX6_offOfAll_26 : decode cX6_offOfAll 26 = .ok (.iload 4, 2) := DX6_offOfAll (26, .iload 4, 2) (List.mem_of_getElem? (i := 17) rfl)
theorem dX6_offOfAll_28 : decode cX6_offOfAll 28 = .ok (.iload_n 2, 1) := DX6_offOfAll (28, .iload_n 2, 1) (List.mem_of_getElem? (i := 18) rfl)
theorem dX6_offOfAll_29 : decode cX6_offOfAll 29 = .ok (.invokevirtual 80, 3) := DX6_offOfAll (29, .invokevirtual 80, 3) (List.mem_of_getElem? (i := 19) rfl)
theorem dX6_offOfAll_32 : decode cX6_offOfAll 32 = .ok (.iadd, 1) := DX6_offOfAll (32, .iadd, 1) (List.mem_of_getElem? (i := 20) rfl)
theorem dX6_offOfAll_33 : decode cX6_offOfAll 33 = .ok (.istore_n 3, 1) := DX6_offOfAll (33, .istore_n 3, 1) (List.mem_of_getElem? (i := 21) rfl)
theorem dX6_offOfAll_34 : decode cX6_offOfAll 34 = .ok (.iinc 4 1, 3) := DX6_offOfAll (34, .iinc 4 1, 3) (List.mem_of_getElem? (i := 22) rfl)
theorem dX6_offOfAll_37 : decode cX6_offOfAll 37 = .ok (.goto (-32), 3) := DX6_offOfAll (37, .goto (-32), 3) (List.mem_of_getElem? (i := 23) rfl)
theorem dX6_offOfAll_40 : decode cX6_offOfAll 40 = .ok (.iload_n 3, 1) := DX6_offOfAll (40, .iload_n 3, 1) (List.mem_of_getElem? (i := 24) rfl)
theorem dX6_offOfAll_41 : decode cX6_offOfAll 41 = .ok (.ireturn, 1) := DX6_offOfAll (41, .ireturn, 1) (List.mem_of_getElem? (i := 25) rfl)
set_option maxRecDepth 100000 in
theorem DX6_haveWhim : ∀ q ∈ ([(0, .aload_n 0, 1), (1, .getfield 24, 3), (4, .ifCond .eq 17, 3), (7, .aload_n 0, 1), (8, .invokevirtual 136, 3), (11, .bipush 100, 2), (13, .irem, 1), (14, .aload_n 0, 1), (15, .getfield 37, 3), (18, .if_icmp .lt 4, 3), (21, .return_, 1), (22, .aload_n 0, 1), (23, .invokevirtual 136, 3), (26, .aload_n 0, 1), (27, .getfield 24, 3), (30, .irem, 1), (31, .istore_n 1, 1), (32, .aload_n 0, 1), (33, .getfield 9, 3), (36, .iload_n 1, 1), (37, .iaload, 1), (38, .iconst 5, 1), (39, .if_icmp .eq 18, 3), (42, .aload_n 0, 1), (43, .iload_n 1, 1), (44, .invokevirtual 142, 3), (47, .aload_n 0, 1), (48, .dup, 1), (49, .getfield 43, 3), (52, .iconst 1, 1), (53, .iadd, 1), (54, .putfield 43, 3), (57, .return_, 1)] : List (Nat × Instr × Nat)), decode cX6_haveWhim q.1 = .ok (q.2.1, q.2.2) := by decide +kernel
theorem dX6_haveWhim_0 : decode cX6_haveWhim 0 = .ok (.aload_n 0, 1) := DX6_haveWhim (0, .aload_n 0, 1) (List.mem_of_getElem? (i := 0) rfl)
theorem dX6_haveWhim_1 : decode cX6_haveWhim 1 = .ok (.getfield 24, 3) := DX6_haveWhim (1, .getfield 24, 3) (List.mem_of_getElem? (i := 1) rfl)
theorem dX6_haveWhim_4 : decode cX6_haveWhim 4 = .ok (.ifCond .eq 17, 3) := DX6_haveWhim (4, .ifCond .eq 17, 3) (List.mem_of_getElem? (i := 2) rfl)
theorem dX6_haveWhim_7 : decode cX6_haveWhim 7 = .ok (.aload_n 0, 1) := DX6_haveWhim (7, .aload_n 0, 1) (List.mem_of_getElem? (i := 3) rfl)
theorem dX6_haveWhim_8 : decode cX6_haveWhim 8 = .ok (.invokevirtual 136, 3) := DX6_haveWhim (8, .invokevirtual 136, 3) (List.mem_of_getElem? (i := 4) rfl)
theorem dX6_haveWhim_11 : decode cX6_haveWhim 11 = .ok (.bipush 100, 2) := DX6_haveWhim (11, .bipush 100, 2) (List.mem_of_getElem? (i := 5) rfl)
theorem dX6_haveWhim_13 : decode cX6_haveWhim 13 = .ok (.irem, 1) := DX6_haveWhim (13, .irem, 1) (List.mem_of_getElem? (i := 6) rfl)
theorem dX6_haveWhim_14 : decode cX6_haveWhim 14 = .ok (.aload_n 0, 1) := DX6_haveWhim (14, .aload_n 0, 1) (List.mem_of_getElem? (i := 7) rfl)
theorem dX6_haveWhim_15 : decode cX6_haveWhim 15 = .ok (.getfield 37, 3) := DX6_haveWhim (15, .getfield 37, 3) (List.mem_of_getElem? (i := 8) rfl)
theorem dX6_haveWhim_18 : decode cX6_haveWhim 18 = .ok (.if_icmp .lt 4, 3) := DX6_haveWhim (18, .if_icmp .lt 4, 3) (List.mem_of_getElem? (i := 9) rfl)
theorem dX6_haveWhim_21 : decode cX6_haveWhim 21 = .ok (.return_, 1) := DX6_haveWhim (21, .return_, 1) (List.mem_of_getElem? (i := 10) rfl)
theorem dX6_haveWhim_22 : decode cX6_haveWhim 22 = .ok (.aload_n 0, 1) := DX6_haveWhim (22, .aload_n 0, 1) (List.mem_of_getElem? (i := 11) rfl)
theorem dX6_haveWhim_23 : decode cX6_haveWhim 23 = .ok (.invokevirtual 136, 3) := DX6_haveWhim (23, .invokevirtual 136, 3) (List.mem_of_getElem? (i := 12) rfl)
theorem dX6_haveWhim_26 : decode cX6_haveWhim 26 = .ok (.aload_n 0, 1) := DX6_haveWhim (26, .aload_n 0, 1) (List.mem_of_getElem? (i := 13) rfl)
theorem dX6_haveWhim_27 : decode cX6_haveWhim 27 = .ok (.getfield 24, 3) := DX6_haveWhim (27, .getfield 24, 3) (List.mem_of_getElem? (i := 14) rfl)
theorem dX6_haveWhim_30 : decode cX6_haveWhim 30 = .ok (.irem, 1) := DX6_haveWhim (30, .irem, 1) (List.mem_of_getElem? (i := 15) rfl)
theorem dX6_haveWhim_31 : decode cX6_haveWhim 31 = .ok (.istore_n 1, 1) := DX6_haveWhim (31, .istore_n 1, 1) (List.mem_of_getElem? (i := 16) rfl)
theorem dX6_haveWhim_32 : decode cX6_haveWhim 32 = .ok (.aload_n 0, 1) := DX6_haveWhim (32, .aload_n 0, 1) (List.mem_of_getElem? (i := 17) rfl)
theorem dX6_haveWhim_33 : decode cX6_haveWhim 33 = .ok (.getfield 9, 3) := DX6_haveWhim (33, .getfield 9, 3) (List.mem_of_getElem? (i := 18) rfl)
theorem dX6_haveWhim_36 : decode cX6_haveWhim 36 = .ok (.iload_n 1, 1) := DX6_haveWhim (36, .iload_n 1, 1) (List.mem_of_getElem? (i := 19) rfl)
theorem dX6_haveWhim_37 : decode cX6_haveWhim 37 = .ok (.iaload, 1) := DX6_haveWhim (37, .iaload, 1) (List.mem_of_getElem? (i := 20) rfl)
theorem dX6_haveWhim_38 : decode cX6_haveWhim 38 = .ok (.iconst 5, 1) := DX6_haveWhim (38, .iconst 5, 1) (List.mem_of_getElem? (i := 21) rfl)
theorem dX6_haveWhim_39 : decode cX6_haveWhim 39 = .ok (.if_icmp .eq 18, 3) := DX6_haveWhim (39, .if_icmp .eq 18, 3) (List.mem_of_getElem? (i := 22) rfl)
theorem dX6_haveWhim_42 : decode cX6_haveWhim 42 = .ok (.aload_n 0, 1) := DX6_haveWhim (42, .aload_n 0, 1) (List.mem_of_getElem? (i := 23) rfl)
theorem dX6_haveWhim_43 : decode cX6_haveWhim 43 = .ok (.iload_n 1, 1) := DX6_haveWhim (43, .iload_n 1, 1) (List.mem_of_getElem? (i := 24) rfl)
theorem dX6_haveWhim_44 : decode cX6_haveWhim 44 = .ok (.invokevirtual 142, 3) := DX6_haveWhim (44, .invokevirtual 142, 3) (List.mem_of_getElem? (i := 25) rfl)
theorem dX6_haveWhim_47 : decode cX6_haveWhim 47 = .ok (.aload_n 0, 1) := DX6_haveWhim (47, .aload_n 0, 1) (List.mem_of_getElem? (i := 26) rfl)
theorem dX6_haveWhim_48 : decode cX6_haveWhim 48 = .ok (.dup, 1) := DX6_haveWhim (48, .dup, 1) (List.mem_of_getElem? (i := 27) rfl)
theorem dX6_haveWhim_49 : decode cX6_haveWhim 49 = .ok (.getfield 43, 3) := DX6_haveWhim (49, .getfield 43, 3) (List.mem_of_getElem? (i := 28) rfl)
theorem dX6_haveWhim_52 : decode cX6_haveWhim 52 = .ok (.iconst 1, 1) := DX6_haveWhim (52, .iconst 1, 1) (List.mem_of_getElem? (i := 29) rfl)
theorem dX6_haveWhim_53 : decode cX6_haveWhim 53 = .ok (.iadd, 1) := DX6_haveWhim (53, .iadd, 1) (List.mem_of_getElem? (i := 30) rfl)
theorem dX6_haveWhim_54 : decode cX6_haveWhim 54 = .ok (.putfield 43, 3) := DX6_haveWhim (54, .putfield 43, 3) (List.mem_of_getElem? (i := 31) rfl)
theorem dX6_haveWhim_57 : decode cX6_haveWhim 57 = .ok (.return_, 1) := DX6_haveWhim (57, .return_, 1) (List.mem_of_getElem? (i := 32) rfl)
end
