theorem tb_1 {w : Cond} (h : w ∈ tables_1_1) : w ∈ lw_tbl := List.mem_append_right _ (List.mem_append_left _ h)
theorem tb_2 {w : Cond} (h : w ∈ tables_1_2) : w ∈ lw_tbl := List.mem_append_right _ (List.mem_append_right _ (List.mem_append_left _ h))
theorem tb_3 {w : Cond} (h : w ∈ tables_1_3) : w ∈ lw_tbl := List.mem_append_right _ (List.mem_append_right _ (List.mem_append_right _ (List.mem_append_left _ h)))
theorem tb_4 {w : Cond} (h : w ∈ tables_1_4) : w ∈ lw_tbl := List.mem_append_right _ (List.mem_append_right _ (List.mem_append_right _ (List.mem_append_right _ (List.mem_append_left _ h))))
theorem tb_5 {w : Cond} (h : w ∈ tables_1_5) : w ∈ lw_tbl := List.mem_append_right _ (List.mem_append_right _ (List.mem_append_right _ (List.mem_append_right _ (List.mem_append_right _ (List.mem_append_left _ h)))))
theorem tb_6 {w : Cond} (h : w ∈ tables_1_6) : w ∈ lw_tbl := List.mem_append_right _ (List.mem_append_right _ (List.mem_append_right _ (List.mem_append_right _ (List.mem_append_right _ (List.mem_append_right _ (h))))))
theorem tb_0 {w : Cond} (h : w ∈ k2_sels lw_privs) : w ∈ lw_tbl := List.mem_append_left _ h
theorem kI_L : Cond.initialized RL ∈ WL := wl_of (tb_1 (List.mem_of_getElem? (i := 0) rfl)) rfl
theorem kI_X7 : Cond.initialized RX7 ∈ WL := wl_of (tb_1 (List.mem_of_getElem? (i := 1) rfl)) rfl
theorem kI_X0 : Cond.initialized RX0 ∈ WL := wl_of (tb_1 (List.mem_of_getElem? (i := 2) rfl)) rfl
theorem kI_X6 : Cond.initialized RX6 ∈ WL := wl_of (tb_1 (List.mem_of_getElem? (i := 3) rfl)) rfl
theorem kI_X2 : Cond.initialized RX2 ∈ WL := wl_of (tb_1 (List.mem_of_getElem? (i := 4) rfl)) rfl
theorem kI_X3 : Cond.initialized RX3 ∈ WL := wl_of (tb_1 (List.mem_of_getElem? (i := 5) rfl)) rfl
theorem kI_X4 : Cond.initialized RX4 ∈ WL := wl_of (tb_1 (List.mem_of_getElem? (i := 6) rfl)) rfl
theorem kI_X5 : Cond.initialized RX5 ∈ WL := wl_of (tb_1 (List.mem_of_getElem? (i := 7) rfl)) rfl
theorem kI_X8 : Cond.initialized RX8 ∈ WL := wl_of (tb_1 (List.mem_of_getElem? (i := 8) rfl)) rfl
theorem kI_J6 : Cond.initialized RJ6 ∈ WL := wl_of (tb_1 (List.mem_of_getElem? (i := 9) rfl)) rfl
theorem kI_J9 : Cond.initialized RJ9 ∈ WL := wl_of (tb_1 (List.mem_of_getElem? (i := 10) rfl)) rfl
theorem kI_X1 : Cond.initialized RX1 ∈ WL := wl_of (tb_1 (List.mem_of_getElem? (i := 11) rfl)) rfl
theorem kI_J10 : Cond.initialized RJ10 ∈ WL := wl_of (tb_1 (List.mem_of_getElem? (i := 12) rfl)) rfl
theorem kI_J0 : Cond.initialized RJ0 ∈ WL := wl_of (tb_1 (List.mem_of_getElem? (i := 13) rfl)) rfl
theorem kI_J1 : Cond.initialized RJ1 ∈ WL := wl_of (tb_1 (List.mem_of_getElem? (i := 14) rfl)) rfl
theorem kI_J3 : Cond.initialized RJ3 ∈ WL := wl_of (tb_1 (List.mem_of_getElem? (i := 15) rfl)) rfl
theorem kI_J2 : Cond.initialized RJ2 ∈ WL := wl_of (tb_1 (List.mem_of_getElem? (i := 16) rfl)) rfl
theorem kI_J11 : Cond.initialized RJ11 ∈ WL := wl_of (tb_1 (List.mem_of_getElem? (i := 17) rfl)) rfl
theorem kCL_L_7 : Cond.classLink RL 7 RX7 ∈ WL := wl_of (tb_1 (List.mem_of_getElem? (i := 18) rfl)) rfl
theorem kIn_X7 : Cond.instantiable RX7 11 ∈ WL := wl_of (tb_1 (List.mem_of_getElem? (i := 19) rfl)) rfl
theorem kM_L_9 : Cond.methodLink RL 9 yX7_init ∈ WL := wl_of (tb_1 (List.mem_of_getElem? (i := 20) rfl)) rfl
theorem kN_X7_init : Cond.instanceMethod yX7_init ∈ WL := wl_of (tb_1 (List.mem_of_getElem? (i := 21) rfl)) rfl
theorem kC_X7_init : Cond.code yX7_init cX7_init 2 none ∈ WL := wl_of (tb_1 (List.mem_of_getElem? (i := 22) rfl)) rfl
theorem kM_X7_1 : Cond.methodLink RX7 1 objectInit ∈ WL := wl_of (tb_1 (List.mem_of_getElem? (i := 23) rfl)) rfl
theorem kN_OBJ : Cond.instanceMethod objectInit ∈ WL := wl_of (tb_1 (List.mem_of_getElem? (i := 24) rfl)) rfl
theorem kC_OBJ : Cond.code objectInit ⟨#[0xb1]⟩ 1 none ∈ WL := wl_of (tb_1 (List.mem_of_getElem? (i := 25) rfl)) rfl
theorem kCL_X7_7 : Cond.classLink RX7 7 RX0 ∈ WL := wl_of (tb_1 (List.mem_of_getElem? (i := 26) rfl)) rfl
theorem kIn_X0 : Cond.instantiable RX0 5 ∈ WL := wl_of (tb_1 (List.mem_of_getElem? (i := 27) rfl)) rfl
theorem kMN_X7_9 : Cond.methodLinkNest RX7 9 yX0_init RX7 ∈ lw_tbl := tb_1 (List.mem_of_getElem? (i := 28) rfl)
theorem kN_X0_init : Cond.instanceMethod yX0_init ∈ WL := wl_of (tb_1 (List.mem_of_getElem? (i := 29) rfl)) rfl
theorem kC_X0_init : Cond.code yX0_init cX0_init 1 none ∈ WL := wl_of (tb_1 (List.mem_of_getElem? (i := 30) rfl)) rfl
theorem kM_X0_3 : Cond.methodLink RX0 3 objectInit ∈ WL := wl_of (tb_1 (List.mem_of_getElem? (i := 31) rfl)) rfl
theorem kCL_X0_21 : Cond.classLink RX0 21 "[[I" ∈ WL := wl_of (tb_1 (List.mem_of_getElem? (i := 32) rfl)) rfl
theorem kF_X0_9 : Cond.fieldLink RX0 9 "HalfFriends$Book" "keys" "[I" ∈ WL := wl_of (tb_1 (List.mem_of_getElem? (i := 34) rfl)) rfl
theorem kF_X7_262 : Cond.fieldLink RX7 262 "HalfFriends$Book" "keys" "[I" ∈ WL := wl_of (tb_1 (List.mem_of_getElem? (i := 35) rfl)) rfl
theorem kF_X0_15 : Cond.fieldLink RX0 15 "HalfFriends$Book" "leaves" "[I" ∈ WL := wl_of (tb_1 (List.mem_of_getElem? (i := 36) rfl)) rfl
theorem kF_X7_265 : Cond.fieldLink RX7 265 "HalfFriends$Book" "leaves" "[I" ∈ WL := wl_of (tb_1 (List.mem_of_getElem? (i := 37) rfl)) rfl
theorem kF_X0_18 : Cond.fieldLink RX0 18 "HalfFriends$Book" "lengths" "[I" ∈ WL := wl_of (tb_1 (List.mem_of_getElem? (i := 38) rfl)) rfl
theorem kF_X0_23 : Cond.fieldLink RX0 23 "HalfFriends$Book" "steps" "[[I" ∈ WL := wl_of (tb_1 (List.mem_of_getElem? (i := 39) rfl)) rfl
theorem kF_X0_26 : Cond.fieldLink RX0 26 "HalfFriends$Book" "stack" "[I" ∈ WL := wl_of (tb_1 (List.mem_of_getElem? (i := 40) rfl)) rfl
theorem kY_X0_keys : Cond.laysFinal RX0 "HalfFriends$Book" "keys" "[I" ∈ WL := wl_of (tb_1 (List.mem_of_getElem? (i := 41) rfl)) rfl
theorem kY_X0_leaves : Cond.laysFinal RX0 "HalfFriends$Book" "leaves" "[I" ∈ WL := wl_of (tb_1 (List.mem_of_getElem? (i := 43) rfl)) rfl
theorem kY_X0_lengths : Cond.laysFinal RX0 "HalfFriends$Book" "lengths" "[I" ∈ WL := wl_of (tb_1 (List.mem_of_getElem? (i := 45) rfl)) rfl
theorem kY_X0_steps : Cond.laysFinal RX0 "HalfFriends$Book" "steps" "[[I" ∈ WL := wl_of (tb_1 (List.mem_of_getElem? (i := 47) rfl)) rfl
theorem kY_X0_stack : Cond.laysFinal RX0 "HalfFriends$Book" "stack" "[I" ∈ WL := wl_of (tb_1 (List.mem_of_getElem? (i := 49) rfl)) rfl
theorem kCL_X7_16 : Cond.classLink RX7 16 RX6 ∈ WL := wl_of (tb_1 (List.mem_of_getElem? (i := 53) rfl)) rfl
theorem kIn_X6 : Cond.instantiable RX6 15 ∈ WL := wl_of (tb_1 (List.mem_of_getElem? (i := 54) rfl)) rfl
theorem kM_X7_18 : Cond.methodLink RX7 18 yX6_init ∈ WL := wl_of (tb_1 (List.mem_of_getElem? (i := 55) rfl)) rfl
theorem kN_X6_init : Cond.instanceMethod yX6_init ∈ WL := wl_of (tb_1 (List.mem_of_getElem? (i := 56) rfl)) rfl
theorem kC_X6_init : Cond.code yX6_init cX6_init 2 none ∈ WL := wl_of (tb_1 (List.mem_of_getElem? (i := 57) rfl)) rfl
theorem kM_X6_3 : Cond.methodLink RX6 3 objectInit ∈ WL := wl_of (tb_1 (List.mem_of_getElem? (i := 58) rfl)) rfl
theorem kF_X6_55 : Cond.fieldLink RX6 55 "HalfFriends$Town" "book" "LHalfFriends$Book;" ∈ WL := wl_of (tb_1 (List.mem_of_getElem? (i := 59) rfl)) rfl
theorem kF_X6_9 : Cond.fieldLink RX6 9 "HalfFriends$Town" "kind" "[I" ∈ WL := wl_of (tb_1 (List.mem_of_getElem? (i := 60) rfl)) rfl
theorem kF_X7_88 : Cond.fieldLink RX7 88 "HalfFriends$Town" "kind" "[I" ∈ WL := wl_of (tb_1 (List.mem_of_getElem? (i := 61) rfl)) rfl
theorem kF_X6_15 : Cond.fieldLink RX6 15 "HalfFriends$Town" "price" "[I" ∈ WL := wl_of (tb_1 (List.mem_of_getElem? (i := 62) rfl)) rfl
theorem kF_X7_95 : Cond.fieldLink RX7 95 "HalfFriends$Town" "price" "[I" ∈ WL := wl_of (tb_1 (List.mem_of_getElem? (i := 63) rfl)) rfl
theorem kF_X6_18 : Cond.fieldLink RX6 18 "HalfFriends$Town" "purse" "[I" ∈ WL := wl_of (tb_1 (List.mem_of_getElem? (i := 64) rfl)) rfl
theorem kF_X7_98 : Cond.fieldLink RX7 98 "HalfFriends$Town" "purse" "[I" ∈ WL := wl_of (tb_1 (List.mem_of_getElem? (i := 65) rfl)) rfl
theorem kF_X6_21 : Cond.fieldLink RX6 21 "HalfFriends$Town" "circle" "[I" ∈ WL := wl_of (tb_1 (List.mem_of_getElem? (i := 66) rfl)) rfl
theorem kF_X7_101 : Cond.fieldLink RX7 101 "HalfFriends$Town" "circle" "[I" ∈ WL := wl_of (tb_1 (List.mem_of_getElem? (i := 67) rfl)) rfl
theorem kF_X2_57 : Cond.fieldLink RX2 57 "HalfFriends$Town" "circle" "[I" ∈ WL := wl_of (tb_1 (List.mem_of_getElem? (i := 68) rfl)) rfl
theorem kF_X6_24 : Cond.fieldLink RX6 24 "HalfFriends$Town" "size" "I" ∈ WL := wl_of (tb_1 (List.mem_of_getElem? (i := 69) rfl)) rfl
theorem kF_X2_25 : Cond.fieldLink RX2 25 "HalfFriends$Town" "size" "I" ∈ WL := wl_of (tb_1 (List.mem_of_getElem? (i := 70) rfl)) rfl
theorem kF_X7_76 : Cond.fieldLink RX7 76 "HalfFriends$Town" "size" "I" ∈ WL := wl_of (tb_1 (List.mem_of_getElem? (i := 71) rfl)) rfl
theorem kF_X6_28 : Cond.fieldLink RX6 28 "HalfFriends$Town" "minds" "I" ∈ WL := wl_of (tb_1 (List.mem_of_getElem? (i := 72) rfl)) rfl
theorem kF_X2_34 : Cond.fieldLink RX2 34 "HalfFriends$Town" "minds" "I" ∈ WL := wl_of (tb_1 (List.mem_of_getElem? (i := 73) rfl)) rfl
theorem kF_X7_170 : Cond.fieldLink RX7 170 "HalfFriends$Town" "minds" "I" ∈ WL := wl_of (tb_1 (List.mem_of_getElem? (i := 74) rfl)) rfl
theorem kF_X6_31 : Cond.fieldLink RX6 31 "HalfFriends$Town" "slack" "I" ∈ WL := wl_of (tb_1 (List.mem_of_getElem? (i := 75) rfl)) rfl
theorem kF_X2_63 : Cond.fieldLink RX2 63 "HalfFriends$Town" "slack" "I" ∈ WL := wl_of (tb_1 (List.mem_of_getElem? (i := 76) rfl)) rfl
theorem kF_X7_140 : Cond.fieldLink RX7 140 "HalfFriends$Town" "slack" "I" ∈ WL := wl_of (tb_1 (List.mem_of_getElem? (i := 77) rfl)) rfl
theorem kF_X6_34 : Cond.fieldLink RX6 34 "HalfFriends$Town" "mode" "I" ∈ WL := wl_of (tb_1 (List.mem_of_getElem? (i := 78) rfl)) rfl
theorem kF_X7_143 : Cond.fieldLink RX7 143 "HalfFriends$Town" "mode" "I" ∈ WL := wl_of (tb_1 (List.mem_of_getElem? (i := 79) rfl)) rfl
theorem kF_X6_37 : Cond.fieldLink RX6 37 "HalfFriends$Town" "whim" "I" ∈ WL := wl_of (tb_1 (List.mem_of_getElem? (i := 80) rfl)) rfl
theorem kF_X7_146 : Cond.fieldLink RX7 146 "HalfFriends$Town" "whim" "I" ∈ WL := wl_of (tb_1 (List.mem_of_getElem? (i := 81) rfl)) rfl
theorem kF_X6_40 : Cond.fieldLink RX6 40 "HalfFriends$Town" "chest" "I" ∈ WL := wl_of (tb_1 (List.mem_of_getElem? (i := 82) rfl)) rfl
theorem kF_X7_164 : Cond.fieldLink RX7 164 "HalfFriends$Town" "chest" "I" ∈ WL := wl_of (tb_1 (List.mem_of_getElem? (i := 83) rfl)) rfl
theorem kF_X6_43 : Cond.fieldLink RX6 43 "HalfFriends$Town" "changes" "I" ∈ WL := wl_of (tb_1 (List.mem_of_getElem? (i := 84) rfl)) rfl
theorem kF_X7_167 : Cond.fieldLink RX7 167 "HalfFriends$Town" "changes" "I" ∈ WL := wl_of (tb_1 (List.mem_of_getElem? (i := 85) rfl)) rfl
theorem kF_X6_46 : Cond.fieldLink RX6 46 "HalfFriends$Town" "year" "I" ∈ WL := wl_of (tb_1 (List.mem_of_getElem? (i := 86) rfl)) rfl
theorem kF_X7_202 : Cond.fieldLink RX7 202 "HalfFriends$Town" "year" "I" ∈ WL := wl_of (tb_1 (List.mem_of_getElem? (i := 87) rfl)) rfl
theorem kF_X6_49 : Cond.fieldLink RX6 49 "HalfFriends$Town" "z" "I" ∈ WL := wl_of (tb_1 (List.mem_of_getElem? (i := 88) rfl)) rfl
theorem kF_X7_158 : Cond.fieldLink RX7 158 "HalfFriends$Town" "z" "I" ∈ WL := wl_of (tb_1 (List.mem_of_getElem? (i := 89) rfl)) rfl
theorem kF_X6_52 : Cond.fieldLink RX6 52 "HalfFriends$Town" "texts" "I" ∈ WL := wl_of (tb_1 (List.mem_of_getElem? (i := 90) rfl)) rfl
theorem kF_X7_236 : Cond.fieldLink RX7 236 "HalfFriends$Town" "texts" "I" ∈ WL := wl_of (tb_1 (List.mem_of_getElem? (i := 91) rfl)) rfl
theorem kY_X6_book : Cond.laysFinal RX6 "HalfFriends$Town" "book" "LHalfFriends$Book;" ∈ WL := wl_of (tb_1 (List.mem_of_getElem? (i := 92) rfl)) rfl
theorem kY_X6_kind : Cond.laysFinal RX6 "HalfFriends$Town" "kind" "[I" ∈ WL := wl_of (tb_1 (List.mem_of_getElem? (i := 94) rfl)) rfl
theorem kY_X6_price : Cond.laysFinal RX6 "HalfFriends$Town" "price" "[I" ∈ WL := wl_of (tb_1 (List.mem_of_getElem? (i := 96) rfl)) rfl
theorem kY_X6_purse : Cond.laysFinal RX6 "HalfFriends$Town" "purse" "[I" ∈ WL := wl_of (tb_1 (List.mem_of_getElem? (i := 98) rfl)) rfl
theorem kY_X6_circle : Cond.laysFinal RX6 "HalfFriends$Town" "circle" "[I" ∈ WL := wl_of (tb_1 (List.mem_of_getElem? (i := 100) rfl)) rfl
theorem kY_X6_size : Cond.lays RX6 "HalfFriends$Town" "size" "I" ∈ WL := wl_of (tb_1 (List.mem_of_getElem? (i := 102) rfl)) rfl
theorem kY_X6_minds : Cond.lays RX6 "HalfFriends$Town" "minds" "I" ∈ WL := wl_of (tb_1 (List.mem_of_getElem? (i := 104) rfl)) rfl
theorem kY_X6_slack : Cond.lays RX6 "HalfFriends$Town" "slack" "I" ∈ WL := wl_of (tb_1 (List.mem_of_getElem? (i := 106) rfl)) rfl
theorem kY_X6_mode : Cond.lays RX6 "HalfFriends$Town" "mode" "I" ∈ WL := wl_of (tb_1 (List.mem_of_getElem? (i := 108) rfl)) rfl
theorem kY_X6_whim : Cond.lays RX6 "HalfFriends$Town" "whim" "I" ∈ WL := wl_of (tb_1 (List.mem_of_getElem? (i := 110) rfl)) rfl
theorem kY_X6_chest : Cond.lays RX6 "HalfFriends$Town" "chest" "I" ∈ WL := wl_of (tb_1 (List.mem_of_getElem? (i := 112) rfl)) rfl
theorem kY_X6_changes : Cond.lays RX6 "HalfFriends$Town" "changes" "I" ∈ WL := wl_of (tb_1 (List.mem_of_getElem? (i := 114) rfl)) rfl
theorem kY_X6_year : Cond.lays RX6 "HalfFriends$Town" "year" "I" ∈ WL := wl_of (tb_1 (List.mem_of_getElem? (i := 116) rfl)) rfl
theorem kY_X6_z : Cond.lays RX6 "HalfFriends$Town" "z" "I" ∈ WL := wl_of (tb_1 (List.mem_of_getElem? (i := 118) rfl)) rfl
theorem kY_X6_texts : Cond.lays RX6 "HalfFriends$Town" "texts" "I" ∈ WL := wl_of (tb_1 (List.mem_of_getElem? (i := 120) rfl)) rfl
theorem kCL_X7_31 : Cond.classLink RX7 31 RX2 ∈ WL := wl_of (tb_1 (List.mem_of_getElem? (i := 123) rfl)) rfl
theorem kIn_X2 : Cond.instantiable RX2 2 ∈ WL := wl_of (tb_1 (List.mem_of_getElem? (i := 124) rfl)) rfl
theorem kMN_X7_33 : Cond.methodLinkNest RX7 33 yX2_init RX7 ∈ lw_tbl := tb_1 (List.mem_of_getElem? (i := 125) rfl)
theorem kN_X2_init : Cond.instanceMethod yX2_init ∈ WL := wl_of (tb_1 (List.mem_of_getElem? (i := 126) rfl)) rfl
theorem kC_X2_init : Cond.code yX2_init cX2_init 1 none ∈ WL := wl_of (tb_1 (List.mem_of_getElem? (i := 127) rfl)) rfl
theorem kM_X2_3 : Cond.methodLink RX2 3 objectInit ∈ WL := wl_of (tb_1 (List.mem_of_getElem? (i := 128) rfl)) rfl
theorem kF_X2_9 : Cond.fieldLink RX2 9 "HalfFriends$Order" "unruly" "[I" ∈ WL := wl_of (tb_1 (List.mem_of_getElem? (i := 129) rfl)) rfl
theorem kF_X2_15 : Cond.fieldLink RX2 15 "HalfFriends$Order" "all" "I" ∈ WL := wl_of (tb_1 (List.mem_of_getElem? (i := 130) rfl)) rfl
theorem kY_X2_unruly : Cond.laysFinal RX2 "HalfFriends$Order" "unruly" "[I" ∈ WL := wl_of (tb_1 (List.mem_of_getElem? (i := 131) rfl)) rfl
theorem kY_X2_all : Cond.lays RX2 "HalfFriends$Order" "all" "I" ∈ WL := wl_of (tb_1 (List.mem_of_getElem? (i := 133) rfl)) rfl
theorem kCL_X7_38 : Cond.classLink RX7 38 RX3 ∈ WL := wl_of (tb_1 (List.mem_of_getElem? (i := 136) rfl)) rfl
theorem kIn_X3 : Cond.instantiable RX3 9 ∈ WL := wl_of (tb_1 (List.mem_of_getElem? (i := 137) rfl)) rfl
theorem kMN_X7_40 : Cond.methodLinkNest RX7 40 yX3_init RX7 ∈ lw_tbl := tb_1 (List.mem_of_getElem? (i := 138) rfl)
theorem kN_X3_init : Cond.instanceMethod yX3_init ∈ WL := wl_of (tb_1 (List.mem_of_getElem? (i := 139) rfl)) rfl
theorem kC_X3_init : Cond.code yX3_init cX3_init 1 none ∈ WL := wl_of (tb_1 (List.mem_of_getElem? (i := 140) rfl)) rfl
theorem kM_X3_3 : Cond.methodLink RX3 3 objectInit ∈ WL := wl_of (tb_1 (List.mem_of_getElem? (i := 141) rfl)) rfl
theorem kF_X3_9 : Cond.fieldLink RX3 9 "HalfFriends$Reader" "tape" "[I" ∈ WL := wl_of (tb_1 (List.mem_of_getElem? (i := 142) rfl)) rfl
theorem kF_X3_15 : Cond.fieldLink RX3 15 "HalfFriends$Reader" "steps" "[I" ∈ WL := wl_of (tb_1 (List.mem_of_getElem? (i := 143) rfl)) rfl
theorem kF_X0_40 : Cond.fieldLink RX0 40 "HalfFriends$Reader" "steps" "[I" ∈ WL := wl_of (tb_1 (List.mem_of_getElem? (i := 144) rfl)) rfl
theorem kF_X3_18 : Cond.fieldLink RX3 18 "HalfFriends$Reader" "length" "I" ∈ WL := wl_of (tb_1 (List.mem_of_getElem? (i := 145) rfl)) rfl
theorem kF_X7_246 : Cond.fieldLink RX7 246 "HalfFriends$Reader" "length" "I" ∈ WL := wl_of (tb_1 (List.mem_of_getElem? (i := 146) rfl)) rfl
theorem kF_X3_22 : Cond.fieldLink RX3 22 "HalfFriends$Reader" "start" "I" ∈ WL := wl_of (tb_1 (List.mem_of_getElem? (i := 147) rfl)) rfl
theorem kF_X7_255 : Cond.fieldLink RX7 255 "HalfFriends$Reader" "start" "I" ∈ WL := wl_of (tb_1 (List.mem_of_getElem? (i := 148) rfl)) rfl
theorem kF_X3_25 : Cond.fieldLink RX3 25 "HalfFriends$Reader" "end" "I" ∈ WL := wl_of (tb_1 (List.mem_of_getElem? (i := 149) rfl)) rfl
theorem kF_X3_28 : Cond.fieldLink RX3 28 "HalfFriends$Reader" "glued" "Z" ∈ WL := wl_of (tb_1 (List.mem_of_getElem? (i := 150) rfl)) rfl
theorem kF_X3_32 : Cond.fieldLink RX3 32 "HalfFriends$Reader" "key" "I" ∈ WL := wl_of (tb_1 (List.mem_of_getElem? (i := 151) rfl)) rfl
theorem kF_X0_29 : Cond.fieldLink RX0 29 "HalfFriends$Reader" "key" "I" ∈ WL := wl_of (tb_1 (List.mem_of_getElem? (i := 152) rfl)) rfl
theorem kF_X3_35 : Cond.fieldLink RX3 35 "HalfFriends$Reader" "leaves" "I" ∈ WL := wl_of (tb_1 (List.mem_of_getElem? (i := 153) rfl)) rfl
theorem kF_X0_35 : Cond.fieldLink RX0 35 "HalfFriends$Reader" "leaves" "I" ∈ WL := wl_of (tb_1 (List.mem_of_getElem? (i := 154) rfl)) rfl
theorem kF_X3_38 : Cond.fieldLink RX3 38 "HalfFriends$Reader" "stepCount" "I" ∈ WL := wl_of (tb_1 (List.mem_of_getElem? (i := 155) rfl)) rfl
theorem kF_X0_37 : Cond.fieldLink RX0 37 "HalfFriends$Reader" "stepCount" "I" ∈ WL := wl_of (tb_1 (List.mem_of_getElem? (i := 156) rfl)) rfl
theorem kY_X3_tape : Cond.laysFinal RX3 "HalfFriends$Reader" "tape" "[I" ∈ WL := wl_of (tb_1 (List.mem_of_getElem? (i := 157) rfl)) rfl
theorem kY_X3_steps : Cond.laysFinal RX3 "HalfFriends$Reader" "steps" "[I" ∈ WL := wl_of (tb_1 (List.mem_of_getElem? (i := 159) rfl)) rfl
theorem kY_X3_length : Cond.lays RX3 "HalfFriends$Reader" "length" "I" ∈ WL := wl_of (tb_1 (List.mem_of_getElem? (i := 161) rfl)) rfl
theorem kY_X3_start : Cond.lays RX3 "HalfFriends$Reader" "start" "I" ∈ WL := wl_of (tb_1 (List.mem_of_getElem? (i := 163) rfl)) rfl
theorem kY_X3_end : Cond.lays RX3 "HalfFriends$Reader" "end" "I" ∈ WL := wl_of (tb_1 (List.mem_of_getElem? (i := 165) rfl)) rfl
theorem kY_X3_glued : Cond.lays RX3 "HalfFriends$Reader" "glued" "Z" ∈ WL := wl_of (tb_1 (List.mem_of_getElem? (i := 167) rfl)) rfl
theorem kY_X3_key : Cond.lays RX3 "HalfFriends$Reader" "key" "I" ∈ WL := wl_of (tb_1 (List.mem_of_getElem? (i := 169) rfl)) rfl
theorem kY_X3_leaves : Cond.lays RX3 "HalfFriends$Reader" "leaves" "I" ∈ WL := wl_of (tb_1 (List.mem_of_getElem? (i := 171) rfl)) rfl
theorem kY_X3_stepCount : Cond.lays RX3 "HalfFriends$Reader" "stepCount" "I" ∈ WL := wl_of (tb_1 (List.mem_of_getElem? (i := 173) rfl)) rfl
theorem kCL_X7_45 : Cond.classLink RX7 45 RX4 ∈ WL := wl_of (tb_1 (List.mem_of_getElem? (i := 176) rfl)) rfl
theorem kCL_X7_51 : Cond.classLink RX7 51 RX5 ∈ WL := wl_of (tb_1 (List.mem_of_getElem? (i := 178) rfl)) rfl
theorem kIn_X4 : Cond.instantiable RX4 3 ∈ WL := wl_of (tb_1 (List.mem_of_getElem? (i := 180) rfl)) rfl
theorem kMN_X7_69 : Cond.methodLinkNest RX7 69 yX4_init RX7 ∈ lw_tbl := tb_1 (List.mem_of_getElem? (i := 181) rfl)
theorem kN_X4_init : Cond.instanceMethod yX4_init ∈ WL := wl_of (tb_1 (List.mem_of_getElem? (i := 182) rfl)) rfl
theorem kC_X4_init : Cond.code yX4_init cX4_init 1 none ∈ WL := wl_of (tb_1 (List.mem_of_getElem? (i := 183) rfl)) rfl
theorem kM_X4_3 : Cond.methodLink RX4 3 objectInit ∈ WL := wl_of (tb_1 (List.mem_of_getElem? (i := 184) rfl)) rfl
theorem kF_X4_9 : Cond.fieldLink RX4 9 "HalfFriends$Row" "places" "[I" ∈ WL := wl_of (tb_1 (List.mem_of_getElem? (i := 185) rfl)) rfl
theorem kF_X7_230 : Cond.fieldLink RX7 230 "HalfFriends$Row" "places" "[I" ∈ WL := wl_of (tb_1 (List.mem_of_getElem? (i := 186) rfl)) rfl
theorem kF_X4_15 : Cond.fieldLink RX4 15 "HalfFriends$Row" "sort" "I" ∈ WL := wl_of (tb_1 (List.mem_of_getElem? (i := 187) rfl)) rfl
theorem kF_X7_277 : Cond.fieldLink RX7 277 "HalfFriends$Row" "sort" "I" ∈ WL := wl_of (tb_1 (List.mem_of_getElem? (i := 188) rfl)) rfl
theorem kF_X4_19 : Cond.fieldLink RX4 19 "HalfFriends$Row" "size" "I" ∈ WL := wl_of (tb_1 (List.mem_of_getElem? (i := 189) rfl)) rfl
theorem kF_X7_223 : Cond.fieldLink RX7 223 "HalfFriends$Row" "size" "I" ∈ WL := wl_of (tb_1 (List.mem_of_getElem? (i := 190) rfl)) rfl
theorem kY_X4_places : Cond.laysFinal RX4 "HalfFriends$Row" "places" "[I" ∈ WL := wl_of (tb_1 (List.mem_of_getElem? (i := 191) rfl)) rfl
theorem kY_X4_sort : Cond.lays RX4 "HalfFriends$Row" "sort" "I" ∈ WL := wl_of (tb_1 (List.mem_of_getElem? (i := 193) rfl)) rfl
theorem kY_X4_size : Cond.lays RX4 "HalfFriends$Row" "size" "I" ∈ WL := wl_of (tb_1 (List.mem_of_getElem? (i := 195) rfl)) rfl
theorem kIn_X5 : Cond.instantiable RX5 5 ∈ WL := wl_of (tb_1 (List.mem_of_getElem? (i := 198) rfl)) rfl
theorem kMN_X7_70 : Cond.methodLinkNest RX7 70 yX5_init RX7 ∈ lw_tbl := tb_1 (List.mem_of_getElem? (i := 199) rfl)
theorem kN_X5_init : Cond.instanceMethod yX5_init ∈ WL := wl_of (tb_1 (List.mem_of_getElem? (i := 200) rfl)) rfl
theorem kC_X5_init : Cond.code yX5_init cX5_init 1 none ∈ WL := wl_of (tb_1 (List.mem_of_getElem? (i := 201) rfl)) rfl
theorem kM_X5_3 : Cond.methodLink RX5 3 objectInit ∈ WL := wl_of (tb_1 (List.mem_of_getElem? (i := 202) rfl)) rfl
theorem kCL_X5_9 : Cond.classLink RX5 9 RX4 ∈ WL := wl_of (tb_1 (List.mem_of_getElem? (i := 203) rfl)) rfl
theorem kMN_X5_11 : Cond.methodLinkNest RX5 11 yX4_init RX7 ∈ lw_tbl := tb_1 (List.mem_of_getElem? (i := 204) rfl)
theorem kF_X5_12 : Cond.fieldLink RX5 12 "HalfFriends$Slot" "row" "LHalfFriends$Row;" ∈ WL := wl_of (tb_1 (List.mem_of_getElem? (i := 205) rfl)) rfl
theorem kF_X7_301 : Cond.fieldLink RX7 301 "HalfFriends$Slot" "row" "LHalfFriends$Row;" ∈ WL := wl_of (tb_1 (List.mem_of_getElem? (i := 206) rfl)) rfl
theorem kF_X5_18 : Cond.fieldLink RX5 18 "HalfFriends$Slot" "thing" "I" ∈ WL := wl_of (tb_1 (List.mem_of_getElem? (i := 207) rfl)) rfl
theorem kF_X7_294 : Cond.fieldLink RX7 294 "HalfFriends$Slot" "thing" "I" ∈ WL := wl_of (tb_1 (List.mem_of_getElem? (i := 208) rfl)) rfl
theorem kF_X5_22 : Cond.fieldLink RX5 22 "HalfFriends$Slot" "kind" "I" ∈ WL := wl_of (tb_1 (List.mem_of_getElem? (i := 209) rfl)) rfl
theorem kF_X7_297 : Cond.fieldLink RX7 297 "HalfFriends$Slot" "kind" "I" ∈ WL := wl_of (tb_1 (List.mem_of_getElem? (i := 210) rfl)) rfl
theorem kF_X5_25 : Cond.fieldLink RX5 25 "HalfFriends$Slot" "price" "I" ∈ WL := wl_of (tb_1 (List.mem_of_getElem? (i := 211) rfl)) rfl
theorem kF_X7_299 : Cond.fieldLink RX7 299 "HalfFriends$Slot" "price" "I" ∈ WL := wl_of (tb_1 (List.mem_of_getElem? (i := 212) rfl)) rfl
theorem kF_X5_28 : Cond.fieldLink RX5 28 "HalfFriends$Slot" "number" "I" ∈ WL := wl_of (tb_1 (List.mem_of_getElem? (i := 213) rfl)) rfl
theorem kF_X7_308 : Cond.fieldLink RX7 308 "HalfFriends$Slot" "number" "I" ∈ WL := wl_of (tb_1 (List.mem_of_getElem? (i := 214) rfl)) rfl
theorem kY_X5_row : Cond.laysFinal RX5 "HalfFriends$Slot" "row" "LHalfFriends$Row;" ∈ WL := wl_of (tb_1 (List.mem_of_getElem? (i := 215) rfl)) rfl
theorem kY_X5_thing : Cond.lays RX5 "HalfFriends$Slot" "thing" "I" ∈ WL := wl_of (tb_1 (List.mem_of_getElem? (i := 217) rfl)) rfl
theorem kY_X5_kind : Cond.lays RX5 "HalfFriends$Slot" "kind" "I" ∈ WL := wl_of (tb_1 (List.mem_of_getElem? (i := 219) rfl)) rfl
theorem kY_X5_price : Cond.lays RX5 "HalfFriends$Slot" "price" "I" ∈ WL := wl_of (tb_1 (List.mem_of_getElem? (i := 221) rfl)) rfl
theorem kY_X5_number : Cond.lays RX5 "HalfFriends$Slot" "number" "I" ∈ WL := wl_of (tb_1 (List.mem_of_getElem? (i := 223) rfl)) rfl
theorem kF_X7_10 : Cond.fieldLink RX7 10 "HalfFriends" "book" "LHalfFriends$Book;" ∈ WL := wl_of (tb_1 (List.mem_of_getElem? (i := 226) rfl)) rfl
theorem kF_X7_21 : Cond.fieldLink RX7 21 "HalfFriends" "now" "LHalfFriends$Town;" ∈ WL := wl_of (tb_1 (List.mem_of_getElem? (i := 227) rfl)) rfl
theorem kF_X7_25 : Cond.fieldLink RX7 25 "HalfFriends" "image" "LHalfFriends$Town;" ∈ WL := wl_of (tb_1 (List.mem_of_getElem? (i := 228) rfl)) rfl
theorem kF_X7_28 : Cond.fieldLink RX7 28 "HalfFriends" "thought" "LHalfFriends$Town;" ∈ WL := wl_of (tb_1 (List.mem_of_getElem? (i := 229) rfl)) rfl
theorem kF_X7_34 : Cond.fieldLink RX7 34 "HalfFriends" "order" "LHalfFriends$Order;" ∈ WL := wl_of (tb_1 (List.mem_of_getElem? (i := 230) rfl)) rfl
theorem kF_X7_41 : Cond.fieldLink RX7 41 "HalfFriends" "reader" "LHalfFriends$Reader;" ∈ WL := wl_of (tb_1 (List.mem_of_getElem? (i := 231) rfl)) rfl
theorem kF_X7_47 : Cond.fieldLink RX7 47 "HalfFriends" "sheets" "[LHalfFriends$Row;" ∈ WL := wl_of (tb_1 (List.mem_of_getElem? (i := 232) rfl)) rfl
theorem kF_X7_53 : Cond.fieldLink RX7 53 "HalfFriends" "slots" "[LHalfFriends$Slot;" ∈ WL := wl_of (tb_1 (List.mem_of_getElem? (i := 233) rfl)) rfl
theorem kF_X7_57 : Cond.fieldLink RX7 57 "HalfFriends" "waiting" "[I" ∈ WL := wl_of (tb_1 (List.mem_of_getElem? (i := 234) rfl)) rfl
theorem kF_X7_61 : Cond.fieldLink RX7 61 "HalfFriends" "waits" "I" ∈ WL := wl_of (tb_1 (List.mem_of_getElem? (i := 235) rfl)) rfl
theorem kF_X7_65 : Cond.fieldLink RX7 65 "HalfFriends" "kept" "Z" ∈ WL := wl_of (tb_1 (List.mem_of_getElem? (i := 236) rfl)) rfl
theorem kY_X7_book : Cond.laysFinal RX7 "HalfFriends" "book" "LHalfFriends$Book;" ∈ WL := wl_of (tb_1 (List.mem_of_getElem? (i := 237) rfl)) rfl
theorem kY_X7_now : Cond.laysFinal RX7 "HalfFriends" "now" "LHalfFriends$Town;" ∈ WL := wl_of (tb_1 (List.mem_of_getElem? (i := 239) rfl)) rfl
theorem kY_X7_image : Cond.laysFinal RX7 "HalfFriends" "image" "LHalfFriends$Town;" ∈ WL := wl_of (tb_2 (List.mem_of_getElem? (i := 1) rfl)) rfl
theorem kY_X7_thought : Cond.laysFinal RX7 "HalfFriends" "thought" "LHalfFriends$Town;" ∈ WL := wl_of (tb_2 (List.mem_of_getElem? (i := 3) rfl)) rfl
theorem kY_X7_order : Cond.laysFinal RX7 "HalfFriends" "order" "LHalfFriends$Order;" ∈ WL := wl_of (tb_2 (List.mem_of_getElem? (i := 5) rfl)) rfl
theorem kY_X7_reader : Cond.laysFinal RX7 "HalfFriends" "reader" "LHalfFriends$Reader;" ∈ WL := wl_of (tb_2 (List.mem_of_getElem? (i := 7) rfl)) rfl
theorem kY_X7_sheets : Cond.laysFinal RX7 "HalfFriends" "sheets" "[LHalfFriends$Row;" ∈ WL := wl_of (tb_2 (List.mem_of_getElem? (i := 9) rfl)) rfl
theorem kY_X7_slots : Cond.laysFinal RX7 "HalfFriends" "slots" "[LHalfFriends$Slot;" ∈ WL := wl_of (tb_2 (List.mem_of_getElem? (i := 11) rfl)) rfl
theorem kY_X7_waiting : Cond.laysFinal RX7 "HalfFriends" "waiting" "[I" ∈ WL := wl_of (tb_2 (List.mem_of_getElem? (i := 13) rfl)) rfl
theorem kY_X7_waits : Cond.lays RX7 "HalfFriends" "waits" "I" ∈ WL := wl_of (tb_2 (List.mem_of_getElem? (i := 15) rfl)) rfl
theorem kY_X7_kept : Cond.lays RX7 "HalfFriends" "kept" "Z" ∈ WL := wl_of (tb_2 (List.mem_of_getElem? (i := 17) rfl)) rfl
theorem kM_L_13 : Cond.methodLink RL 13 yX7_person ∈ WL := wl_of (tb_2 (List.mem_of_getElem? (i := 20) rfl)) rfl
theorem kN_X7_person : Cond.instanceMethod yX7_person ∈ WL := wl_of (tb_2 (List.mem_of_getElem? (i := 21) rfl)) rfl
theorem kV_X7_person : Cond.selects RX7 yX7_person yX7_person ∈ WL := wl_of (tb_2 (List.mem_of_getElem? (i := 22) rfl)) rfl
theorem kC_X7_person : Cond.code yX7_person cX7_person 4 (some .int) ∈ WL := wl_of (tb_2 (List.mem_of_getElem? (i := 23) rfl)) rfl
theorem kM_X7_71 : Cond.methodLink RX7 71 yX7_outside ∈ WL := wl_of (tb_2 (List.mem_of_getElem? (i := 24) rfl)) rfl
theorem kS_X7_outside : Cond.static yX7_outside ∈ WL := wl_of (tb_2 (List.mem_of_getElem? (i := 25) rfl)) rfl
theorem kC_X7_outside : Cond.code yX7_outside cX7_outside 3 (some .boolean) ∈ WL := wl_of (tb_2 (List.mem_of_getElem? (i := 26) rfl)) rfl
theorem kK_X7_75 : Cond.constant RX7 75 (-1000000001) ∈ WL := wl_of (tb_2 (List.mem_of_getElem? (i := 27) rfl)) rfl
theorem kK_X7_79 : Cond.constant RX7 79 (-1000000003) ∈ WL := wl_of (tb_2 (List.mem_of_getElem? (i := 28) rfl)) rfl
theorem kM_X7_80 : Cond.methodLink RX7 80 yX6_join ∈ WL := wl_of (tb_2 (List.mem_of_getElem? (i := 29) rfl)) rfl
theorem kN_X6_join : Cond.instanceMethod yX6_join ∈ WL := wl_of (tb_2 (List.mem_of_getElem? (i := 30) rfl)) rfl
theorem kV_X6_join : Cond.selects RX6 yX6_join yX6_join ∈ WL := wl_of (tb_2 (List.mem_of_getElem? (i := 31) rfl)) rfl
theorem kC_X6_join : Cond.code yX6_join cX6_join 4 none ∈ WL := wl_of (tb_2 (List.mem_of_getElem? (i := 32) rfl)) rfl
theorem kM_L_18 : Cond.methodLink RL 18 yX7_told ∈ WL := wl_of (tb_2 (List.mem_of_getElem? (i := 33) rfl)) rfl
theorem kN_X7_told : Cond.instanceMethod yX7_told ∈ WL := wl_of (tb_2 (List.mem_of_getElem? (i := 34) rfl)) rfl
theorem kV_X7_told : Cond.selects RX7 yX7_told yX7_told ∈ WL := wl_of (tb_2 (List.mem_of_getElem? (i := 35) rfl)) rfl
theorem kC_X7_told : Cond.code yX7_told cX7_told 3 (some .int) ∈ WL := wl_of (tb_2 (List.mem_of_getElem? (i := 36) rfl)) rfl
theorem kM_X7_84 : Cond.methodLink RX7 84 yX7_isNobody ∈ WL := wl_of (tb_2 (List.mem_of_getElem? (i := 37) rfl)) rfl
theorem kN_X7_isNobody : Cond.instanceMethod yX7_isNobody ∈ WL := wl_of (tb_2 (List.mem_of_getElem? (i := 39) rfl)) rfl
theorem kC_X7_isNobody : Cond.code yX7_isNobody cX7_isNobody 2 (some .boolean) ∈ WL := wl_of (tb_2 (List.mem_of_getElem? (i := 40) rfl)) rfl
theorem kM_X7_91 : Cond.methodLink RX7 91 yX6_mindOf ∈ WL := wl_of (tb_2 (List.mem_of_getElem? (i := 41) rfl)) rfl
theorem kN_X6_mindOf : Cond.instanceMethod yX6_mindOf ∈ WL := wl_of (tb_2 (List.mem_of_getElem? (i := 42) rfl)) rfl
theorem kV_X6_mindOf : Cond.selects RX6 yX6_mindOf yX6_mindOf ∈ WL := wl_of (tb_2 (List.mem_of_getElem? (i := 43) rfl)) rfl
theorem kC_X6_mindOf : Cond.code yX6_mindOf cX6_mindOf 2 (some .int) ∈ WL := wl_of (tb_2 (List.mem_of_getElem? (i := 44) rfl)) rfl
theorem kM_X7_104 : Cond.methodLink RX7 104 yX6_offOf ∈ WL := wl_of (tb_2 (List.mem_of_getElem? (i := 45) rfl)) rfl
theorem kN_X6_offOf : Cond.instanceMethod yX6_offOf ∈ WL := wl_of (tb_2 (List.mem_of_getElem? (i := 46) rfl)) rfl
theorem kV_X6_offOf : Cond.selects RX6 yX6_offOf yX6_offOf ∈ WL := wl_of (tb_2 (List.mem_of_getElem? (i := 47) rfl)) rfl
theorem kC_X6_offOf : Cond.code yX6_offOf cX6_offOf 2 (some .int) ∈ WL := wl_of (tb_2 (List.mem_of_getElem? (i := 48) rfl)) rfl
theorem kM_X6_80 : Cond.methodLink RX6 80 yX6_off ∈ WL := wl_of (tb_2 (List.mem_of_getElem? (i := 49) rfl)) rfl
theorem kN_X6_off : Cond.instanceMethod yX6_off ∈ WL := wl_of (tb_2 (List.mem_of_getElem? (i := 50) rfl)) rfl
theorem kV_X6_off : Cond.selects RX6 yX6_off yX6_off ∈ WL := wl_of (tb_2 (List.mem_of_getElem? (i := 51) rfl)) rfl
theorem kC_X6_off : Cond.code yX6_off cX6_off 3 (some .int) ∈ WL := wl_of (tb_2 (List.mem_of_getElem? (i := 52) rfl)) rfl
theorem kM_X6_76 : Cond.methodLink RX6 76 yX6_offAmong ∈ WL := wl_of (tb_2 (List.mem_of_getElem? (i := 53) rfl)) rfl
theorem kS_X6_offAmong : Cond.static yX6_offAmong ∈ WL := wl_of (tb_2 (List.mem_of_getElem? (i := 54) rfl)) rfl
theorem kC_X6_offAmong : Cond.code yX6_offAmong cX6_offAmong 2 (some .int) ∈ WL := wl_of (tb_2 (List.mem_of_getElem? (i := 55) rfl)) rfl
theorem kM_X6_65 : Cond.methodLink RX6 65 yJ6_bitCount_0f7a4 ∈ WL := wl_of (tb_2 (List.mem_of_getElem? (i := 56) rfl)) rfl
theorem kS_J6_bitCount_0f7a4 : Cond.static yJ6_bitCount_0f7a4 ∈ WL := wl_of (tb_2 (List.mem_of_getElem? (i := 57) rfl)) rfl
theorem kC_J6_bitCount_0f7a4 : Cond.code yJ6_bitCount_0f7a4 cJ6_bitCount_0f7a4 1 (some .int) ∈ WL := wl_of (tb_2 (List.mem_of_getElem? (i := 58) rfl)) rfl
theorem kK_J6_265 : Cond.constant RJ6 265 (1431655765) ∈ WL := wl_of (tb_2 (List.mem_of_getElem? (i := 59) rfl)) rfl
theorem kK_J6_266 : Cond.constant RJ6 266 (858993459) ∈ WL := wl_of (tb_2 (List.mem_of_getElem? (i := 60) rfl)) rfl
theorem kK_J6_267 : Cond.constant RJ6 267 (252645135) ∈ WL := wl_of (tb_2 (List.mem_of_getElem? (i := 61) rfl)) rfl
theorem kM_X6_71 : Cond.methodLink RX6 71 Lib.Math.abs.name ∈ WL := wl_of (tb_2 (List.mem_of_getElem? (i := 62) rfl)) rfl
theorem kS_Math_abs : Cond.static Lib.Math.abs.name ∈ WL := wl_of (tb_2 (List.mem_of_getElem? (i := 63) rfl)) rfl
theorem kC_Math_abs : Cond.code Lib.Math.abs.name Lib.Math.abs.code 1 (some .int) ∈ WL := wl_of (tb_2 (List.mem_of_getElem? (i := 64) rfl)) rfl
theorem kM_X7_107 : Cond.methodLink RX7 107 yX6_owes ∈ WL := wl_of (tb_2 (List.mem_of_getElem? (i := 65) rfl)) rfl
theorem kN_X6_owes : Cond.instanceMethod yX6_owes ∈ WL := wl_of (tb_2 (List.mem_of_getElem? (i := 66) rfl)) rfl
theorem kV_X6_owes : Cond.selects RX6 yX6_owes yX6_owes ∈ WL := wl_of (tb_2 (List.mem_of_getElem? (i := 67) rfl)) rfl
theorem kC_X6_owes : Cond.code yX6_owes cX6_owes 5 (some .int) ∈ WL := wl_of (tb_2 (List.mem_of_getElem? (i := 68) rfl)) rfl
theorem kM_X6_83 : Cond.methodLink RX6 83 yX6_offOf ∈ WL := wl_of (tb_2 (List.mem_of_getElem? (i := 69) rfl)) rfl
theorem kM_X6_86 : Cond.methodLink RX6 86 yX0_counts ∈ WL := wl_of (tb_2 (List.mem_of_getElem? (i := 70) rfl)) rfl
theorem kN_X0_counts : Cond.instanceMethod yX0_counts ∈ WL := wl_of (tb_2 (List.mem_of_getElem? (i := 71) rfl)) rfl
theorem kV_X0_counts : Cond.selects RX0 yX0_counts yX0_counts ∈ WL := wl_of (tb_2 (List.mem_of_getElem? (i := 72) rfl)) rfl
theorem kC_X0_counts : Cond.code yX0_counts cX0_counts 4 (some .int) ∈ WL := wl_of (tb_2 (List.mem_of_getElem? (i := 73) rfl)) rfl
theorem kM_X0_48 : Cond.methodLink RX0 48 Lib.Math.min.name ∈ WL := wl_of (tb_2 (List.mem_of_getElem? (i := 74) rfl)) rfl
theorem kS_Math_min : Cond.static Lib.Math.min.name ∈ WL := wl_of (tb_2 (List.mem_of_getElem? (i := 75) rfl)) rfl
theorem kC_Math_min : Cond.code Lib.Math.min.name Lib.Math.min.code 2 (some .int) ∈ WL := wl_of (tb_2 (List.mem_of_getElem? (i := 76) rfl)) rfl
theorem kM_X6_91 : Cond.methodLink RX6 91 yX6_mindOf ∈ WL := wl_of (tb_2 (List.mem_of_getElem? (i := 77) rfl)) rfl
theorem kM_X6_94 : Cond.methodLink RX6 94 yX0_gives ∈ WL := wl_of (tb_2 (List.mem_of_getElem? (i := 78) rfl)) rfl
theorem kN_X0_gives : Cond.instanceMethod yX0_gives ∈ WL := wl_of (tb_2 (List.mem_of_getElem? (i := 79) rfl)) rfl
theorem kV_X0_gives : Cond.selects RX0 yX0_gives yX0_gives ∈ WL := wl_of (tb_2 (List.mem_of_getElem? (i := 80) rfl)) rfl
theorem kC_X0_gives : Cond.code yX0_gives cX0_gives 9 (some .int) ∈ WL := wl_of (tb_2 (List.mem_of_getElem? (i := 81) rfl)) rfl
theorem kM_X0_54 : Cond.methodLink RX0 54 yX0_leaf ∈ WL := wl_of (tb_2 (List.mem_of_getElem? (i := 82) rfl)) rfl
theorem kS_X0_leaf : Cond.static yX0_leaf ∈ WL := wl_of (tb_2 (List.mem_of_getElem? (i := 83) rfl)) rfl
theorem kC_X0_leaf : Cond.code yX0_leaf cX0_leaf 4 (some .int) ∈ WL := wl_of (tb_2 (List.mem_of_getElem? (i := 84) rfl)) rfl
theorem kM_X0_58 : Cond.methodLink RX0 58 yX0_joined ∈ WL := wl_of (tb_2 (List.mem_of_getElem? (i := 85) rfl)) rfl
theorem kS_X0_joined : Cond.static yX0_joined ∈ WL := wl_of (tb_2 (List.mem_of_getElem? (i := 86) rfl)) rfl
theorem kC_X0_joined : Cond.code yX0_joined cX0_joined 3 (some .int) ∈ WL := wl_of (tb_2 (List.mem_of_getElem? (i := 87) rfl)) rfl
theorem kM_X6_98 : Cond.methodLink RX6 98 Lib.Math.min.name ∈ WL := wl_of (tb_2 (List.mem_of_getElem? (i := 88) rfl)) rfl
theorem kM_X6_101 : Cond.methodLink RX6 101 Lib.Math.max.name ∈ WL := wl_of (tb_2 (List.mem_of_getElem? (i := 89) rfl)) rfl
theorem kS_Math_max : Cond.static Lib.Math.max.name ∈ WL := wl_of (tb_2 (List.mem_of_getElem? (i := 90) rfl)) rfl
theorem kC_Math_max : Cond.code Lib.Math.max.name Lib.Math.max.code 2 (some .int) ∈ WL := wl_of (tb_2 (List.mem_of_getElem? (i := 91) rfl)) rfl
theorem kM_X6_104 : Cond.methodLink RX6 104 yX1_owes ∈ WL := wl_of (tb_2 (List.mem_of_getElem? (i := 92) rfl)) rfl
theorem kS_X1_owes : Cond.static yX1_owes ∈ WL := wl_of (tb_2 (List.mem_of_getElem? (i := 93) rfl)) rfl
theorem kC_X1_owes : Cond.code yX1_owes cX1_owes 2 (some .int) ∈ WL := wl_of (tb_2 (List.mem_of_getElem? (i := 94) rfl)) rfl
theorem kM_X1_15 : Cond.methodLink RX1 15 Lib.Math.max.name ∈ WL := wl_of (tb_2 (List.mem_of_getElem? (i := 95) rfl)) rfl
theorem kM_X7_110 : Cond.methodLink RX7 110 yX6_asks ∈ WL := wl_of (tb_2 (List.mem_of_getElem? (i := 96) rfl)) rfl
theorem kN_X6_asks : Cond.instanceMethod yX6_asks ∈ WL := wl_of (tb_2 (List.mem_of_getElem? (i := 97) rfl)) rfl
theorem kV_X6_asks : Cond.selects RX6 yX6_asks yX6_asks ∈ WL := wl_of (tb_2 (List.mem_of_getElem? (i := 98) rfl)) rfl
theorem kC_X6_asks : Cond.code yX6_asks cX6_asks 2 (some .int) ∈ WL := wl_of (tb_2 (List.mem_of_getElem? (i := 99) rfl)) rfl
theorem kM_X6_109 : Cond.methodLink RX6 109 yX1_asks ∈ WL := wl_of (tb_2 (List.mem_of_getElem? (i := 100) rfl)) rfl
theorem kS_X1_asks : Cond.static yX1_asks ∈ WL := wl_of (tb_2 (List.mem_of_getElem? (i := 101) rfl)) rfl
theorem kC_X1_asks : Cond.code yX1_asks cX1_asks 2 (some .int) ∈ WL := wl_of (tb_2 (List.mem_of_getElem? (i := 102) rfl)) rfl
theorem kM_X7_113 : Cond.methodLink RX7 113 yX1_worth ∈ WL := wl_of (tb_2 (List.mem_of_getElem? (i := 103) rfl)) rfl
theorem kS_X1_worth : Cond.static yX1_worth ∈ WL := wl_of (tb_2 (List.mem_of_getElem? (i := 104) rfl)) rfl
theorem kC_X1_worth : Cond.code yX1_worth cX1_worth 2 (some .int) ∈ WL := wl_of (tb_2 (List.mem_of_getElem? (i := 105) rfl)) rfl
theorem kM_L_23 : Cond.methodLink RL 23 yX7_as ∈ WL := wl_of (tb_2 (List.mem_of_getElem? (i := 106) rfl)) rfl
theorem kN_X7_as : Cond.instanceMethod yX7_as ∈ WL := wl_of (tb_2 (List.mem_of_getElem? (i := 107) rfl)) rfl
theorem kV_X7_as : Cond.selects RX7 yX7_as yX7_as ∈ WL := wl_of (tb_2 (List.mem_of_getElem? (i := 108) rfl)) rfl
theorem kC_X7_as : Cond.code yX7_as cX7_as 3 (some .int) ∈ WL := wl_of (tb_2 (List.mem_of_getElem? (i := 109) rfl)) rfl
theorem kM_X7_119 : Cond.methodLink RX7 119 yX1_isOf ∈ WL := wl_of (tb_2 (List.mem_of_getElem? (i := 110) rfl)) rfl
theorem kS_X1_isOf : Cond.static yX1_isOf ∈ WL := wl_of (tb_2 (List.mem_of_getElem? (i := 111) rfl)) rfl
theorem kC_X1_isOf : Cond.code yX1_isOf cX1_isOf 4 (some .boolean) ∈ WL := wl_of (tb_2 (List.mem_of_getElem? (i := 112) rfl)) rfl
theorem kF_X1_9 : Cond.fieldLink RX1 9 "HalfFriends$Kinds" "ABOVE" "[I" ∈ WL := wl_of (tb_2 (List.mem_of_getElem? (i := 113) rfl)) rfl
theorem kYS_X1_ABOVE : Cond.laysStatic RX1 "ABOVE" "[I" ∈ lw_tbl := tb_2 (List.mem_of_getElem? (i := 114) rfl)
theorem kK_X7_123 : Cond.constant RX7 123 (-1000000012) ∈ WL := wl_of (tb_2 (List.mem_of_getElem? (i := 115) rfl)) rfl
theorem kM_L_27 : Cond.methodLink RL 27 yX7_turns ∈ WL := wl_of (tb_2 (List.mem_of_getElem? (i := 116) rfl)) rfl
theorem kN_X7_turns : Cond.instanceMethod yX7_turns ∈ WL := wl_of (tb_2 (List.mem_of_getElem? (i := 117) rfl)) rfl
theorem kV_X7_turns : Cond.selects RX7 yX7_turns yX7_turns ∈ WL := wl_of (tb_2 (List.mem_of_getElem? (i := 118) rfl)) rfl
theorem kC_X7_turns : Cond.code yX7_turns cX7_turns 4 (some .int) ∈ WL := wl_of (tb_2 (List.mem_of_getElem? (i := 119) rfl)) rfl
theorem kM_L_31 : Cond.methodLink RL 31 yX7_set ∈ WL := wl_of (tb_2 (List.mem_of_getElem? (i := 120) rfl)) rfl
theorem kN_X7_set : Cond.instanceMethod yX7_set ∈ WL := wl_of (tb_2 (List.mem_of_getElem? (i := 121) rfl)) rfl
theorem kV_X7_set : Cond.selects RX7 yX7_set yX7_set ∈ WL := wl_of (tb_2 (List.mem_of_getElem? (i := 122) rfl)) rfl
theorem kC_X7_set : Cond.code yX7_set cX7_set 4 (some .int) ∈ WL := wl_of (tb_2 (List.mem_of_getElem? (i := 123) rfl)) rfl
theorem kM_X7_124 : Cond.methodLink RX7 124 yX7_setMind ∈ WL := wl_of (tb_2 (List.mem_of_getElem? (i := 124) rfl)) rfl
theorem kN_X7_setMind : Cond.instanceMethod yX7_setMind ∈ WL := wl_of (tb_2 (List.mem_of_getElem? (i := 126) rfl)) rfl
theorem kC_X7_setMind : Cond.code yX7_setMind cX7_setMind 4 (some .int) ∈ WL := wl_of (tb_2 (List.mem_of_getElem? (i := 127) rfl)) rfl
theorem kM_X7_133 : Cond.methodLink RX7 133 yX6_flip ∈ WL := wl_of (tb_2 (List.mem_of_getElem? (i := 128) rfl)) rfl
theorem kN_X6_flip : Cond.instanceMethod yX6_flip ∈ WL := wl_of (tb_2 (List.mem_of_getElem? (i := 129) rfl)) rfl
theorem kV_X6_flip : Cond.selects RX6 yX6_flip yX6_flip ∈ WL := wl_of (tb_2 (List.mem_of_getElem? (i := 130) rfl)) rfl
theorem kC_X6_flip : Cond.code yX6_flip cX6_flip 2 none ∈ WL := wl_of (tb_2 (List.mem_of_getElem? (i := 131) rfl)) rfl
theorem kM_X7_127 : Cond.methodLink RX7 127 yX7_setPrice ∈ WL := wl_of (tb_2 (List.mem_of_getElem? (i := 132) rfl)) rfl
theorem kN_X7_setPrice : Cond.instanceMethod yX7_setPrice ∈ WL := wl_of (tb_2 (List.mem_of_getElem? (i := 134) rfl)) rfl
theorem kC_X7_setPrice : Cond.code yX7_setPrice cX7_setPrice 4 (some .int) ∈ WL := wl_of (tb_2 (List.mem_of_getElem? (i := 135) rfl)) rfl
theorem kM_X7_130 : Cond.methodLink RX7 130 yX7_setPurse ∈ WL := wl_of (tb_2 (List.mem_of_getElem? (i := 136) rfl)) rfl
theorem kN_X7_setPurse : Cond.instanceMethod yX7_setPurse ∈ WL := wl_of (tb_2 (List.mem_of_getElem? (i := 138) rfl)) rfl
theorem kC_X7_setPurse : Cond.code yX7_setPurse cX7_setPurse 4 (some .int) ∈ WL := wl_of (tb_2 (List.mem_of_getElem? (i := 139) rfl)) rfl
theorem kM_L_35 : Cond.methodLink RL 35 yX7_friends ∈ WL := wl_of (tb_2 (List.mem_of_getElem? (i := 140) rfl)) rfl
theorem kN_X7_friends : Cond.instanceMethod yX7_friends ∈ WL := wl_of (tb_2 (List.mem_of_getElem? (i := 141) rfl)) rfl
theorem kV_X7_friends : Cond.selects RX7 yX7_friends yX7_friends ∈ WL := wl_of (tb_2 (List.mem_of_getElem? (i := 142) rfl)) rfl
theorem kC_X7_friends : Cond.code yX7_friends cX7_friends 5 (some .int) ∈ WL := wl_of (tb_2 (List.mem_of_getElem? (i := 143) rfl)) rfl
theorem kM_X7_137 : Cond.methodLink RX7 137 yX6_areFriends ∈ WL := wl_of (tb_2 (List.mem_of_getElem? (i := 144) rfl)) rfl
theorem kN_X6_areFriends : Cond.instanceMethod yX6_areFriends ∈ WL := wl_of (tb_2 (List.mem_of_getElem? (i := 145) rfl)) rfl
theorem kV_X6_areFriends : Cond.selects RX6 yX6_areFriends yX6_areFriends ∈ WL := wl_of (tb_2 (List.mem_of_getElem? (i := 146) rfl)) rfl
theorem kC_X6_areFriends : Cond.code yX6_areFriends cX6_areFriends 3 (some .boolean) ∈ WL := wl_of (tb_2 (List.mem_of_getElem? (i := 147) rfl)) rfl
theorem kM_L_39 : Cond.methodLink RL 39 yX7_rule ∈ WL := wl_of (tb_2 (List.mem_of_getElem? (i := 148) rfl)) rfl
theorem kN_X7_rule : Cond.instanceMethod yX7_rule ∈ WL := wl_of (tb_2 (List.mem_of_getElem? (i := 149) rfl)) rfl
theorem kV_X7_rule : Cond.selects RX7 yX7_rule yX7_rule ∈ WL := wl_of (tb_2 (List.mem_of_getElem? (i := 150) rfl)) rfl
theorem kC_X7_rule : Cond.code yX7_rule cX7_rule 4 (some .int) ∈ WL := wl_of (tb_2 (List.mem_of_getElem? (i := 151) rfl)) rfl
theorem kM_L_43 : Cond.methodLink RL 43 yX7_deal ∈ WL := wl_of (tb_2 (List.mem_of_getElem? (i := 152) rfl)) rfl
theorem kN_X7_deal : Cond.instanceMethod yX7_deal ∈ WL := wl_of (tb_2 (List.mem_of_getElem? (i := 153) rfl)) rfl
theorem kV_X7_deal : Cond.selects RX7 yX7_deal yX7_deal ∈ WL := wl_of (tb_2 (List.mem_of_getElem? (i := 154) rfl)) rfl
theorem kC_X7_deal : Cond.code yX7_deal cX7_deal 7 (some .int) ∈ WL := wl_of (tb_2 (List.mem_of_getElem? (i := 155) rfl)) rfl
theorem kM_X7_149 : Cond.methodLink RX7 149 Lib.Math.min.name ∈ WL := wl_of (tb_2 (List.mem_of_getElem? (i := 156) rfl)) rfl
theorem kM_X7_154 : Cond.methodLink RX7 154 yX6_draw ∈ WL := wl_of (tb_2 (List.mem_of_getElem? (i := 157) rfl)) rfl
theorem kN_X6_draw : Cond.instanceMethod yX6_draw ∈ WL := wl_of (tb_2 (List.mem_of_getElem? (i := 158) rfl)) rfl
theorem kV_X6_draw : Cond.selects RX6 yX6_draw yX6_draw ∈ WL := wl_of (tb_2 (List.mem_of_getElem? (i := 159) rfl)) rfl
theorem kC_X6_draw : Cond.code yX6_draw cX6_draw 1 (some .int) ∈ WL := wl_of (tb_2 (List.mem_of_getElem? (i := 160) rfl)) rfl
theorem kK_X6_112 : Cond.constant RX6 112 (1103515245) ∈ WL := wl_of (tb_2 (List.mem_of_getElem? (i := 161) rfl)) rfl
theorem kM_L_48 : Cond.methodLink RL 48 yX7_seed ∈ WL := wl_of (tb_2 (List.mem_of_getElem? (i := 162) rfl)) rfl
theorem kN_X7_seed : Cond.instanceMethod yX7_seed ∈ WL := wl_of (tb_2 (List.mem_of_getElem? (i := 163) rfl)) rfl
theorem kV_X7_seed : Cond.selects RX7 yX7_seed yX7_seed ∈ WL := wl_of (tb_2 (List.mem_of_getElem? (i := 164) rfl)) rfl
theorem kC_X7_seed : Cond.code yX7_seed cX7_seed 3 (some .int) ∈ WL := wl_of (tb_2 (List.mem_of_getElem? (i := 165) rfl)) rfl
theorem kM_L_52 : Cond.methodLink RL 52 yX7_town ∈ WL := wl_of (tb_2 (List.mem_of_getElem? (i := 166) rfl)) rfl
theorem kN_X7_town : Cond.instanceMethod yX7_town ∈ WL := wl_of (tb_2 (List.mem_of_getElem? (i := 167) rfl)) rfl
theorem kV_X7_town : Cond.selects RX7 yX7_town yX7_town ∈ WL := wl_of (tb_2 (List.mem_of_getElem? (i := 168) rfl)) rfl
theorem kC_X7_town : Cond.code yX7_town cX7_town 2 (some .int) ∈ WL := wl_of (tb_2 (List.mem_of_getElem? (i := 169) rfl)) rfl
theorem kM_X7_161 : Cond.methodLink RX7 161 yX6_offTogether ∈ WL := wl_of (tb_2 (List.mem_of_getElem? (i := 170) rfl)) rfl
theorem kN_X6_offTogether : Cond.instanceMethod yX6_offTogether ∈ WL := wl_of (tb_2 (List.mem_of_getElem? (i := 171) rfl)) rfl
theorem kV_X6_offTogether : Cond.selects RX6 yX6_offTogether yX6_offTogether ∈ WL := wl_of (tb_2 (List.mem_of_getElem? (i := 172) rfl)) rfl
theorem kC_X6_offTogether : Cond.code yX6_offTogether cX6_offTogether 3 (some .int) ∈ WL := wl_of (tb_2 (List.mem_of_getElem? (i := 173) rfl)) rfl
theorem kM_X7_173 : Cond.methodLink RX7 173 yX6_unruly ∈ WL := wl_of (tb_2 (List.mem_of_getElem? (i := 174) rfl)) rfl
theorem kN_X6_unruly : Cond.instanceMethod yX6_unruly ∈ WL := wl_of (tb_2 (List.mem_of_getElem? (i := 175) rfl)) rfl
theorem kV_X6_unruly : Cond.selects RX6 yX6_unruly yX6_unruly ∈ WL := wl_of (tb_2 (List.mem_of_getElem? (i := 176) rfl)) rfl
theorem kC_X6_unruly : Cond.code yX6_unruly cX6_unruly 4 (some .int) ∈ WL := wl_of (tb_2 (List.mem_of_getElem? (i := 177) rfl)) rfl
theorem kM_X7_176 : Cond.methodLink RX7 176 yX6_oddOnes ∈ WL := wl_of (tb_2 (List.mem_of_getElem? (i := 178) rfl)) rfl
theorem kN_X6_oddOnes : Cond.instanceMethod yX6_oddOnes ∈ WL := wl_of (tb_2 (List.mem_of_getElem? (i := 179) rfl)) rfl
theorem kV_X6_oddOnes : Cond.selects RX6 yX6_oddOnes yX6_oddOnes ∈ WL := wl_of (tb_2 (List.mem_of_getElem? (i := 180) rfl)) rfl
theorem kC_X6_oddOnes : Cond.code yX6_oddOnes cX6_oddOnes 3 (some .int) ∈ WL := wl_of (tb_2 (List.mem_of_getElem? (i := 181) rfl)) rfl
theorem kM_L_56 : Cond.methodLink RL 56 yX7_ways ∈ WL := wl_of (tb_2 (List.mem_of_getElem? (i := 182) rfl)) rfl
theorem kN_X7_ways : Cond.instanceMethod yX7_ways ∈ WL := wl_of (tb_2 (List.mem_of_getElem? (i := 183) rfl)) rfl
theorem kV_X7_ways : Cond.selects RX7 yX7_ways yX7_ways ∈ WL := wl_of (tb_2 (List.mem_of_getElem? (i := 184) rfl)) rfl
theorem kC_X7_ways : Cond.code yX7_ways cX7_ways 1 (some .int) ∈ WL := wl_of (tb_2 (List.mem_of_getElem? (i := 185) rfl)) rfl
theorem kM_X7_179 : Cond.methodLink RX7 179 yX2_scan ∈ WL := wl_of (tb_2 (List.mem_of_getElem? (i := 186) rfl)) rfl
theorem kN_X2_scan : Cond.instanceMethod yX2_scan ∈ WL := wl_of (tb_2 (List.mem_of_getElem? (i := 187) rfl)) rfl
theorem kV_X2_scan : Cond.selects RX2 yX2_scan yX2_scan ∈ WL := wl_of (tb_2 (List.mem_of_getElem? (i := 188) rfl)) rfl
theorem kC_X2_scan : Cond.code yX2_scan cX2_scan 5 none ∈ WL := wl_of (tb_2 (List.mem_of_getElem? (i := 189) rfl)) rfl
theorem kM_X2_19 : Cond.methodLink RX2 19 yX6_fixedOnes ∈ WL := wl_of (tb_2 (List.mem_of_getElem? (i := 190) rfl)) rfl
theorem kN_X6_fixedOnes : Cond.instanceMethod yX6_fixedOnes ∈ WL := wl_of (tb_2 (List.mem_of_getElem? (i := 191) rfl)) rfl
theorem kV_X6_fixedOnes : Cond.selects RX6 yX6_fixedOnes yX6_fixedOnes ∈ WL := wl_of (tb_2 (List.mem_of_getElem? (i := 192) rfl)) rfl
theorem kC_X6_fixedOnes : Cond.code yX6_fixedOnes cX6_fixedOnes 3 (some .int) ∈ WL := wl_of (tb_2 (List.mem_of_getElem? (i := 193) rfl)) rfl
theorem kM_X2_28 : Cond.methodLink RX2 28 Lib.Math.min.name ∈ WL := wl_of (tb_2 (List.mem_of_getElem? (i := 194) rfl)) rfl
theorem kM_X2_37 : Cond.methodLink RX2 37 yX6_unruly ∈ WL := wl_of (tb_2 (List.mem_of_getElem? (i := 195) rfl)) rfl
theorem kM_X7_183 : Cond.methodLink RX7 183 yX2_howMany ∈ WL := wl_of (tb_2 (List.mem_of_getElem? (i := 196) rfl)) rfl
theorem kN_X2_howMany : Cond.instanceMethod yX2_howMany ∈ WL := wl_of (tb_2 (List.mem_of_getElem? (i := 197) rfl)) rfl
theorem kV_X2_howMany : Cond.selects RX2 yX2_howMany yX2_howMany ∈ WL := wl_of (tb_2 (List.mem_of_getElem? (i := 198) rfl)) rfl
theorem kC_X2_howMany : Cond.code yX2_howMany cX2_howMany 3 (some .int) ∈ WL := wl_of (tb_2 (List.mem_of_getElem? (i := 199) rfl)) rfl
theorem kM_L_61 : Cond.methodLink RL 61 yX7_minds ∈ WL := wl_of (tb_2 (List.mem_of_getElem? (i := 200) rfl)) rfl
theorem kN_X7_minds : Cond.instanceMethod yX7_minds ∈ WL := wl_of (tb_2 (List.mem_of_getElem? (i := 201) rfl)) rfl
theorem kV_X7_minds : Cond.selects RX7 yX7_minds yX7_minds ∈ WL := wl_of (tb_2 (List.mem_of_getElem? (i := 202) rfl)) rfl
theorem kC_X7_minds : Cond.code yX7_minds cX7_minds 2 (some .int) ∈ WL := wl_of (tb_2 (List.mem_of_getElem? (i := 203) rfl)) rfl
theorem kM_X7_186 : Cond.methodLink RX7 186 yX2_chosen ∈ WL := wl_of (tb_2 (List.mem_of_getElem? (i := 204) rfl)) rfl
theorem kN_X2_chosen : Cond.instanceMethod yX2_chosen ∈ WL := wl_of (tb_2 (List.mem_of_getElem? (i := 205) rfl)) rfl
theorem kV_X2_chosen : Cond.selects RX2 yX2_chosen yX2_chosen ∈ WL := wl_of (tb_2 (List.mem_of_getElem? (i := 206) rfl)) rfl
theorem kC_X2_chosen : Cond.code yX2_chosen cX2_chosen 7 (some .int) ∈ WL := wl_of (tb_2 (List.mem_of_getElem? (i := 207) rfl)) rfl
theorem kK_X2_40 : Cond.constant RX2 40 (-1000000005) ∈ WL := wl_of (tb_2 (List.mem_of_getElem? (i := 208) rfl)) rfl
theorem kM_X2_41 : Cond.methodLink RX2 41 yX2_cost ∈ WL := wl_of (tb_2 (List.mem_of_getElem? (i := 209) rfl)) rfl
theorem kS_X2_cost : Cond.static yX2_cost ∈ WL := wl_of (tb_2 (List.mem_of_getElem? (i := 210) rfl)) rfl
theorem kC_X2_cost : Cond.code yX2_cost cX2_cost 3 (some .int) ∈ WL := wl_of (tb_2 (List.mem_of_getElem? (i := 211) rfl)) rfl
theorem kM_X2_45 : Cond.methodLink RX2 45 yJ6_bitCount_0f7a4 ∈ WL := wl_of (tb_2 (List.mem_of_getElem? (i := 212) rfl)) rfl
theorem kM_X2_50 : Cond.methodLink RX2 50 yX2_priceOf ∈ WL := wl_of (tb_2 (List.mem_of_getElem? (i := 213) rfl)) rfl
theorem kS_X2_priceOf : Cond.static yX2_priceOf ∈ WL := wl_of (tb_2 (List.mem_of_getElem? (i := 214) rfl)) rfl
theorem kC_X2_priceOf : Cond.code yX2_priceOf cX2_priceOf 4 (some .int) ∈ WL := wl_of (tb_2 (List.mem_of_getElem? (i := 215) rfl)) rfl
theorem kM_X2_54 : Cond.methodLink RX2 54 yX6_asks ∈ WL := wl_of (tb_2 (List.mem_of_getElem? (i := 216) rfl)) rfl
theorem kM_L_65 : Cond.methodLink RL 65 yX7_freedom ∈ WL := wl_of (tb_2 (List.mem_of_getElem? (i := 217) rfl)) rfl
theorem kN_X7_freedom : Cond.instanceMethod yX7_freedom ∈ WL := wl_of (tb_2 (List.mem_of_getElem? (i := 218) rfl)) rfl
theorem kV_X7_freedom : Cond.selects RX7 yX7_freedom yX7_freedom ∈ WL := wl_of (tb_2 (List.mem_of_getElem? (i := 219) rfl)) rfl
theorem kC_X7_freedom : Cond.code yX7_freedom cX7_freedom 1 (some .int) ∈ WL := wl_of (tb_2 (List.mem_of_getElem? (i := 220) rfl)) rfl
theorem kM_X7_190 : Cond.methodLink RX7 190 yX2_free ∈ WL := wl_of (tb_2 (List.mem_of_getElem? (i := 221) rfl)) rfl
theorem kN_X2_free : Cond.instanceMethod yX2_free ∈ WL := wl_of (tb_2 (List.mem_of_getElem? (i := 222) rfl)) rfl
theorem kV_X2_free : Cond.selects RX2 yX2_free yX2_free ∈ WL := wl_of (tb_2 (List.mem_of_getElem? (i := 223) rfl)) rfl
theorem kC_X2_free : Cond.code yX2_free cX2_free 4 (some .int) ∈ WL := wl_of (tb_2 (List.mem_of_getElem? (i := 224) rfl)) rfl
theorem kM_L_69 : Cond.methodLink RL 69 yX7_together ∈ WL := wl_of (tb_2 (List.mem_of_getElem? (i := 225) rfl)) rfl
theorem kN_X7_together : Cond.instanceMethod yX7_together ∈ WL := wl_of (tb_2 (List.mem_of_getElem? (i := 226) rfl)) rfl
theorem kV_X7_together : Cond.selects RX7 yX7_together yX7_together ∈ WL := wl_of (tb_2 (List.mem_of_getElem? (i := 227) rfl)) rfl
theorem kC_X7_together : Cond.code yX7_together cX7_together 1 (some .int) ∈ WL := wl_of (tb_2 (List.mem_of_getElem? (i := 228) rfl)) rfl
theorem kK_X7_193 : Cond.constant RX7 193 (-1000000002) ∈ WL := wl_of (tb_2 (List.mem_of_getElem? (i := 229) rfl)) rfl
theorem kM_X7_194 : Cond.methodLink RX7 194 yX2_nearest ∈ WL := wl_of (tb_2 (List.mem_of_getElem? (i := 230) rfl)) rfl
theorem kN_X2_nearest : Cond.instanceMethod yX2_nearest ∈ WL := wl_of (tb_2 (List.mem_of_getElem? (i := 231) rfl)) rfl
theorem kV_X2_nearest : Cond.selects RX2 yX2_nearest yX2_nearest ∈ WL := wl_of (tb_2 (List.mem_of_getElem? (i := 232) rfl)) rfl
theorem kC_X2_nearest : Cond.code yX2_nearest cX2_nearest 5 (some .int) ∈ WL := wl_of (tb_2 (List.mem_of_getElem? (i := 233) rfl)) rfl
theorem kM_L_73 : Cond.methodLink RL 73 yX7_best ∈ WL := wl_of (tb_2 (List.mem_of_getElem? (i := 234) rfl)) rfl
theorem kN_X7_best : Cond.instanceMethod yX7_best ∈ WL := wl_of (tb_2 (List.mem_of_getElem? (i := 235) rfl)) rfl
theorem kV_X7_best : Cond.selects RX7 yX7_best yX7_best ∈ WL := wl_of (tb_2 (List.mem_of_getElem? (i := 236) rfl)) rfl
theorem kC_X7_best : Cond.code yX7_best cX7_best 9 (some .int) ∈ WL := wl_of (tb_2 (List.mem_of_getElem? (i := 237) rfl)) rfl
theorem kK_X7_197 : Cond.constant RX7 197 (-1000000005) ∈ WL := wl_of (tb_2 (List.mem_of_getElem? (i := 238) rfl)) rfl
theorem kM_X7_198 : Cond.methodLink RX7 198 yX2_howManyTurned ∈ WL := wl_of (tb_2 (List.mem_of_getElem? (i := 239) rfl)) rfl
theorem kN_X2_howManyTurned : Cond.instanceMethod yX2_howManyTurned ∈ WL := wl_of (tb_3 (List.mem_of_getElem? (i := 0) rfl)) rfl
theorem kV_X2_howManyTurned : Cond.selects RX2 yX2_howManyTurned yX2_howManyTurned ∈ WL := wl_of (tb_3 (List.mem_of_getElem? (i := 1) rfl)) rfl
theorem kC_X2_howManyTurned : Cond.code yX2_howManyTurned cX2_howManyTurned 9 (some .int) ∈ WL := wl_of (tb_3 (List.mem_of_getElem? (i := 2) rfl)) rfl
theorem kM_X2_60 : Cond.methodLink RX2 60 yX6_offAmong ∈ WL := wl_of (tb_3 (List.mem_of_getElem? (i := 3) rfl)) rfl
theorem kM_L_77 : Cond.methodLink RL 77 yX7_years ∈ WL := wl_of (tb_3 (List.mem_of_getElem? (i := 4) rfl)) rfl
theorem kN_X7_years : Cond.instanceMethod yX7_years ∈ WL := wl_of (tb_3 (List.mem_of_getElem? (i := 5) rfl)) rfl
theorem kV_X7_years : Cond.selects RX7 yX7_years yX7_years ∈ WL := wl_of (tb_3 (List.mem_of_getElem? (i := 6) rfl)) rfl
theorem kC_X7_years : Cond.code yX7_years cX7_years 3 (some .int) ∈ WL := wl_of (tb_3 (List.mem_of_getElem? (i := 7) rfl)) rfl
theorem kM_X7_205 : Cond.methodLink RX7 205 yX6_pass ∈ WL := wl_of (tb_3 (List.mem_of_getElem? (i := 8) rfl)) rfl
theorem kN_X6_pass : Cond.instanceMethod yX6_pass ∈ WL := wl_of (tb_3 (List.mem_of_getElem? (i := 9) rfl)) rfl
theorem kV_X6_pass : Cond.selects RX6 yX6_pass yX6_pass ∈ WL := wl_of (tb_3 (List.mem_of_getElem? (i := 10) rfl)) rfl
theorem kC_X6_pass : Cond.code yX6_pass cX6_pass 3 none ∈ WL := wl_of (tb_3 (List.mem_of_getElem? (i := 11) rfl)) rfl
theorem kM_X6_113 : Cond.methodLink RX6 113 yX6_payDues ∈ WL := wl_of (tb_3 (List.mem_of_getElem? (i := 12) rfl)) rfl
theorem kN_X6_payDues : Cond.instanceMethod yX6_payDues ∈ WL := wl_of (tb_3 (List.mem_of_getElem? (i := 14) rfl)) rfl
theorem kC_X6_payDues : Cond.code yX6_payDues cX6_payDues 2 none ∈ WL := wl_of (tb_3 (List.mem_of_getElem? (i := 15) rfl)) rfl
theorem kM_X6_127 : Cond.methodLink RX6 127 yX6_owes ∈ WL := wl_of (tb_3 (List.mem_of_getElem? (i := 16) rfl)) rfl
theorem kM_X6_129 : Cond.methodLink RX6 129 yX6_pay ∈ WL := wl_of (tb_3 (List.mem_of_getElem? (i := 17) rfl)) rfl
theorem kN_X6_pay : Cond.instanceMethod yX6_pay ∈ WL := wl_of (tb_3 (List.mem_of_getElem? (i := 19) rfl)) rfl
theorem kC_X6_pay : Cond.code yX6_pay cX6_pay 3 none ∈ WL := wl_of (tb_3 (List.mem_of_getElem? (i := 20) rfl)) rfl
theorem kM_X6_116 : Cond.methodLink RX6 116 yX6_lookedAt ∈ WL := wl_of (tb_3 (List.mem_of_getElem? (i := 21) rfl)) rfl
theorem kN_X6_lookedAt : Cond.instanceMethod yX6_lookedAt ∈ WL := wl_of (tb_3 (List.mem_of_getElem? (i := 23) rfl)) rfl
theorem kC_X6_lookedAt : Cond.code yX6_lookedAt cX6_lookedAt 1 (some .int) ∈ WL := wl_of (tb_3 (List.mem_of_getElem? (i := 24) rfl)) rfl
theorem kM_X6_133 : Cond.methodLink RX6 133 yX6_worst ∈ WL := wl_of (tb_3 (List.mem_of_getElem? (i := 25) rfl)) rfl
theorem kN_X6_worst : Cond.instanceMethod yX6_worst ∈ WL := wl_of (tb_3 (List.mem_of_getElem? (i := 27) rfl)) rfl
theorem kC_X6_worst : Cond.code yX6_worst cX6_worst 4 (some .int) ∈ WL := wl_of (tb_3 (List.mem_of_getElem? (i := 28) rfl)) rfl
theorem kM_X6_136 : Cond.methodLink RX6 136 yX6_draw ∈ WL := wl_of (tb_3 (List.mem_of_getElem? (i := 29) rfl)) rfl
theorem kM_X6_120 : Cond.methodLink RX6 120 yX6_persuade ∈ WL := wl_of (tb_3 (List.mem_of_getElem? (i := 30) rfl)) rfl
theorem kN_X6_persuade : Cond.instanceMethod yX6_persuade ∈ WL := wl_of (tb_3 (List.mem_of_getElem? (i := 32) rfl)) rfl
theorem kC_X6_persuade : Cond.code yX6_persuade cX6_persuade 3 none ∈ WL := wl_of (tb_3 (List.mem_of_getElem? (i := 33) rfl)) rfl
theorem kM_X6_139 : Cond.methodLink RX6 139 yX6_offOfAll ∈ WL := wl_of (tb_3 (List.mem_of_getElem? (i := 34) rfl)) rfl
theorem kN_X6_offOfAll : Cond.instanceMethod yX6_offOfAll ∈ WL := wl_of (tb_3 (List.mem_of_getElem? (i := 36) rfl)) rfl
theorem kC_X6_offOfAll : Cond.code yX6_offOfAll cX6_offOfAll 5 (some .int) ∈ WL := wl_of (tb_3 (List.mem_of_getElem? (i := 37) rfl)) rfl
theorem kM_X6_142 : Cond.methodLink RX6 142 yX6_flip ∈ WL := wl_of (tb_3 (List.mem_of_getElem? (i := 38) rfl)) rfl
theorem kM_X6_145 : Cond.methodLink RX6 145 yX6_asks ∈ WL := wl_of (tb_3 (List.mem_of_getElem? (i := 39) rfl)) rfl
theorem kM_X6_124 : Cond.methodLink RX6 124 yX6_haveWhim ∈ WL := wl_of (tb_3 (List.mem_of_getElem? (i := 40) rfl)) rfl
theorem kN_X6_haveWhim : Cond.instanceMethod yX6_haveWhim ∈ WL := wl_of (tb_3 (List.mem_of_getElem? (i := 42) rfl)) rfl
theorem kC_X6_haveWhim : Cond.code yX6_haveWhim cX6_haveWhim 2 none ∈ WL := wl_of (tb_3 (List.mem_of_getElem? (i := 43) rfl)) rfl
theorem kM_L_81 : Cond.methodLink RL 81 yX7_behind ∈ WL := wl_of (tb_3 (List.mem_of_getElem? (i := 44) rfl)) rfl
theorem kN_X7_behind : Cond.instanceMethod yX7_behind ∈ WL := wl_of (tb_3 (List.mem_of_getElem? (i := 45) rfl)) rfl
theorem kV_X7_behind : Cond.selects RX7 yX7_behind yX7_behind ∈ WL := wl_of (tb_3 (List.mem_of_getElem? (i := 46) rfl)) rfl
theorem kC_X7_behind : Cond.code yX7_behind cX7_behind 3 (some .int) ∈ WL := wl_of (tb_3 (List.mem_of_getElem? (i := 47) rfl)) rfl
theorem kM_X7_208 : Cond.methodLink RX7 208 yX6_become ∈ WL := wl_of (tb_3 (List.mem_of_getElem? (i := 48) rfl)) rfl
theorem kN_X6_become : Cond.instanceMethod yX6_become ∈ WL := wl_of (tb_3 (List.mem_of_getElem? (i := 49) rfl)) rfl
theorem kV_X6_become : Cond.selects RX6 yX6_become yX6_become ∈ WL := wl_of (tb_3 (List.mem_of_getElem? (i := 50) rfl)) rfl
theorem kC_X6_become : Cond.code yX6_become cX6_become 2 none ∈ WL := wl_of (tb_3 (List.mem_of_getElem? (i := 51) rfl)) rfl
theorem kM_X6_59 : Cond.methodLink RX6 59 arraycopyName ∈ WL := wl_of (tb_3 (List.mem_of_getElem? (i := 52) rfl)) rfl
theorem kS_copy : Cond.static arraycopyName ∈ WL := wl_of (tb_3 (List.mem_of_getElem? (i := 53) rfl)) rfl
theorem kNat_copy : Cond.native arraycopyName ∈ WL := wl_of (tb_3 (List.mem_of_getElem? (i := 54) rfl)) rfl
theorem kM_L_85 : Cond.methodLink RL 85 yX7_settles ∈ WL := wl_of (tb_3 (List.mem_of_getElem? (i := 55) rfl)) rfl
theorem kN_X7_settles : Cond.instanceMethod yX7_settles ∈ WL := wl_of (tb_3 (List.mem_of_getElem? (i := 56) rfl)) rfl
theorem kV_X7_settles : Cond.selects RX7 yX7_settles yX7_settles ∈ WL := wl_of (tb_3 (List.mem_of_getElem? (i := 57) rfl)) rfl
theorem kC_X7_settles : Cond.code yX7_settles cX7_settles 2 (some .int) ∈ WL := wl_of (tb_3 (List.mem_of_getElem? (i := 58) rfl)) rfl
theorem kM_L_89 : Cond.methodLink RL 89 yX7_won ∈ WL := wl_of (tb_3 (List.mem_of_getElem? (i := 59) rfl)) rfl
theorem kN_X7_won : Cond.instanceMethod yX7_won ∈ WL := wl_of (tb_3 (List.mem_of_getElem? (i := 60) rfl)) rfl
theorem kV_X7_won : Cond.selects RX7 yX7_won yX7_won ∈ WL := wl_of (tb_3 (List.mem_of_getElem? (i := 61) rfl)) rfl
theorem kC_X7_won : Cond.code yX7_won cX7_won 7 (some .int) ∈ WL := wl_of (tb_3 (List.mem_of_getElem? (i := 62) rfl)) rfl
theorem kM_L_93 : Cond.methodLink RL 93 yX7_lied ∈ WL := wl_of (tb_3 (List.mem_of_getElem? (i := 63) rfl)) rfl
theorem kN_X7_lied : Cond.instanceMethod yX7_lied ∈ WL := wl_of (tb_3 (List.mem_of_getElem? (i := 64) rfl)) rfl
theorem kV_X7_lied : Cond.selects RX7 yX7_lied yX7_lied ∈ WL := wl_of (tb_3 (List.mem_of_getElem? (i := 65) rfl)) rfl
theorem kC_X7_lied : Cond.code yX7_lied cX7_lied 7 (some .int) ∈ WL := wl_of (tb_3 (List.mem_of_getElem? (i := 66) rfl)) rfl
theorem kM_X7_211 : Cond.methodLink RX7 211 yX7_isNoSheet ∈ WL := wl_of (tb_3 (List.mem_of_getElem? (i := 67) rfl)) rfl
theorem kS_X7_isNoSheet : Cond.static yX7_isNoSheet ∈ WL := wl_of (tb_3 (List.mem_of_getElem? (i := 68) rfl)) rfl
theorem kC_X7_isNoSheet : Cond.code yX7_isNoSheet cX7_isNoSheet 1 (some .boolean) ∈ WL := wl_of (tb_3 (List.mem_of_getElem? (i := 69) rfl)) rfl
theorem kM_X7_214 : Cond.methodLink RX7 214 yX4_isMissing ∈ WL := wl_of (tb_3 (List.mem_of_getElem? (i := 70) rfl)) rfl
theorem kN_X4_isMissing : Cond.instanceMethod yX4_isMissing ∈ WL := wl_of (tb_3 (List.mem_of_getElem? (i := 71) rfl)) rfl
theorem kV_X4_isMissing : Cond.selects RX4 yX4_isMissing yX4_isMissing ∈ WL := wl_of (tb_3 (List.mem_of_getElem? (i := 72) rfl)) rfl
theorem kC_X4_isMissing : Cond.code yX4_isMissing cX4_isMissing 1 (some .boolean) ∈ WL := wl_of (tb_3 (List.mem_of_getElem? (i := 73) rfl)) rfl
theorem kK_X7_218 : Cond.constant RX7 218 (-1000000011) ∈ WL := wl_of (tb_3 (List.mem_of_getElem? (i := 74) rfl)) rfl
theorem kM_X7_219 : Cond.methodLink RX7 219 yX7_differences ∈ WL := wl_of (tb_3 (List.mem_of_getElem? (i := 75) rfl)) rfl
theorem kN_X7_differences : Cond.instanceMethod yX7_differences ∈ WL := wl_of (tb_3 (List.mem_of_getElem? (i := 77) rfl)) rfl
theorem kC_X7_differences : Cond.code yX7_differences cX7_differences 6 (some .int) ∈ WL := wl_of (tb_3 (List.mem_of_getElem? (i := 78) rfl)) rfl
theorem kM_X7_224 : Cond.methodLink RX7 224 yX4_isNumber ∈ WL := wl_of (tb_3 (List.mem_of_getElem? (i := 79) rfl)) rfl
theorem kN_X4_isNumber : Cond.instanceMethod yX4_isNumber ∈ WL := wl_of (tb_3 (List.mem_of_getElem? (i := 80) rfl)) rfl
theorem kV_X4_isNumber : Cond.selects RX4 yX4_isNumber yX4_isNumber ∈ WL := wl_of (tb_3 (List.mem_of_getElem? (i := 81) rfl)) rfl
theorem kC_X4_isNumber : Cond.code yX4_isNumber cX4_isNumber 2 (some .boolean) ∈ WL := wl_of (tb_3 (List.mem_of_getElem? (i := 82) rfl)) rfl
theorem kM_X4_28 : Cond.methodLink RX4 28 yX4_hasNo ∈ WL := wl_of (tb_3 (List.mem_of_getElem? (i := 83) rfl)) rfl
theorem kN_X4_hasNo : Cond.instanceMethod yX4_hasNo ∈ WL := wl_of (tb_3 (List.mem_of_getElem? (i := 84) rfl)) rfl
theorem kV_X4_hasNo : Cond.selects RX4 yX4_hasNo yX4_hasNo ∈ WL := wl_of (tb_3 (List.mem_of_getElem? (i := 85) rfl)) rfl
theorem kC_X4_hasNo : Cond.code yX4_hasNo cX4_hasNo 2 (some .boolean) ∈ WL := wl_of (tb_3 (List.mem_of_getElem? (i := 86) rfl)) rfl
theorem kK_X4_32 : Cond.constant RX4 32 (-1000000005) ∈ WL := wl_of (tb_3 (List.mem_of_getElem? (i := 87) rfl)) rfl
theorem kM_X7_227 : Cond.methodLink RX7 227 yX6_off ∈ WL := wl_of (tb_3 (List.mem_of_getElem? (i := 88) rfl)) rfl
theorem kM_X7_233 : Cond.methodLink RX7 233 Lib.Math.abs.name ∈ WL := wl_of (tb_3 (List.mem_of_getElem? (i := 89) rfl)) rfl
theorem kM_L_97 : Cond.methodLink RL 97 yX7_fee ∈ WL := wl_of (tb_3 (List.mem_of_getElem? (i := 90) rfl)) rfl
theorem kN_X7_fee : Cond.instanceMethod yX7_fee ∈ WL := wl_of (tb_3 (List.mem_of_getElem? (i := 91) rfl)) rfl
theorem kV_X7_fee : Cond.selects RX7 yX7_fee yX7_fee ∈ WL := wl_of (tb_3 (List.mem_of_getElem? (i := 92) rfl)) rfl
theorem kC_X7_fee : Cond.code yX7_fee cX7_fee 2 (some .int) ∈ WL := wl_of (tb_3 (List.mem_of_getElem? (i := 93) rfl)) rfl
theorem kM_X7_239 : Cond.methodLink RX7 239 yX0_counts ∈ WL := wl_of (tb_3 (List.mem_of_getElem? (i := 94) rfl)) rfl
theorem kM_X7_242 : Cond.methodLink RX7 242 yX0_gives ∈ WL := wl_of (tb_3 (List.mem_of_getElem? (i := 95) rfl)) rfl
theorem kM_L_101 : Cond.methodLink RL 101 yX7_fine ∈ WL := wl_of (tb_3 (List.mem_of_getElem? (i := 96) rfl)) rfl
theorem kN_X7_fine : Cond.instanceMethod yX7_fine ∈ WL := wl_of (tb_3 (List.mem_of_getElem? (i := 97) rfl)) rfl
theorem kV_X7_fine : Cond.selects RX7 yX7_fine yX7_fine ∈ WL := wl_of (tb_3 (List.mem_of_getElem? (i := 98) rfl)) rfl
theorem kC_X7_fine : Cond.code yX7_fine cX7_fine 4 (some .int) ∈ WL := wl_of (tb_3 (List.mem_of_getElem? (i := 99) rfl)) rfl
theorem kM_L_105 : Cond.methodLink RL 105 yX7_feed ∈ WL := wl_of (tb_3 (List.mem_of_getElem? (i := 100) rfl)) rfl
theorem kN_X7_feed : Cond.instanceMethod yX7_feed ∈ WL := wl_of (tb_3 (List.mem_of_getElem? (i := 101) rfl)) rfl
theorem kV_X7_feed : Cond.selects RX7 yX7_feed yX7_feed ∈ WL := wl_of (tb_3 (List.mem_of_getElem? (i := 102) rfl)) rfl
theorem kC_X7_feed : Cond.code yX7_feed cX7_feed 4 (some .int) ∈ WL := wl_of (tb_3 (List.mem_of_getElem? (i := 103) rfl)) rfl
theorem kM_X7_249 : Cond.methodLink RX7 249 yX3_append ∈ WL := wl_of (tb_3 (List.mem_of_getElem? (i := 104) rfl)) rfl
theorem kN_X3_append : Cond.instanceMethod yX3_append ∈ WL := wl_of (tb_3 (List.mem_of_getElem? (i := 105) rfl)) rfl
theorem kV_X3_append : Cond.selects RX3 yX3_append yX3_append ∈ WL := wl_of (tb_3 (List.mem_of_getElem? (i := 106) rfl)) rfl
theorem kC_X3_append : Cond.code yX3_append cX3_append 3 none ∈ WL := wl_of (tb_3 (List.mem_of_getElem? (i := 107) rfl)) rfl
theorem kM_L_109 : Cond.methodLink RL 109 yX7_trim ∈ WL := wl_of (tb_3 (List.mem_of_getElem? (i := 108) rfl)) rfl
theorem kN_X7_trim : Cond.instanceMethod yX7_trim ∈ WL := wl_of (tb_3 (List.mem_of_getElem? (i := 109) rfl)) rfl
theorem kV_X7_trim : Cond.selects RX7 yX7_trim yX7_trim ∈ WL := wl_of (tb_3 (List.mem_of_getElem? (i := 110) rfl)) rfl
theorem kC_X7_trim : Cond.code yX7_trim cX7_trim 2 (some .int) ∈ WL := wl_of (tb_3 (List.mem_of_getElem? (i := 111) rfl)) rfl
theorem kM_L_113 : Cond.methodLink RL 113 yX7_text ∈ WL := wl_of (tb_3 (List.mem_of_getElem? (i := 112) rfl)) rfl
theorem kN_X7_text : Cond.instanceMethod yX7_text ∈ WL := wl_of (tb_3 (List.mem_of_getElem? (i := 113) rfl)) rfl
theorem kV_X7_text : Cond.selects RX7 yX7_text yX7_text ∈ WL := wl_of (tb_3 (List.mem_of_getElem? (i := 114) rfl)) rfl
theorem kC_X7_text : Cond.code yX7_text cX7_text 3 (some .int) ∈ WL := wl_of (tb_3 (List.mem_of_getElem? (i := 115) rfl)) rfl
theorem kM_X7_252 : Cond.methodLink RX7 252 yX3_read ∈ WL := wl_of (tb_3 (List.mem_of_getElem? (i := 116) rfl)) rfl
theorem kN_X3_read : Cond.instanceMethod yX3_read ∈ WL := wl_of (tb_3 (List.mem_of_getElem? (i := 117) rfl)) rfl
theorem kV_X3_read : Cond.selects RX3 yX3_read yX3_read ∈ WL := wl_of (tb_3 (List.mem_of_getElem? (i := 118) rfl)) rfl
theorem kC_X3_read : Cond.code yX3_read cX3_read 1 (some .boolean) ∈ WL := wl_of (tb_3 (List.mem_of_getElem? (i := 119) rfl)) rfl
theorem kM_X3_41 : Cond.methodLink RX3 41 yX3_next ∈ WL := wl_of (tb_3 (List.mem_of_getElem? (i := 120) rfl)) rfl
theorem kN_X3_next : Cond.instanceMethod yX3_next ∈ WL := wl_of (tb_3 (List.mem_of_getElem? (i := 122) rfl)) rfl
theorem kC_X3_next : Cond.code yX3_next cX3_next 4 none ∈ WL := wl_of (tb_3 (List.mem_of_getElem? (i := 123) rfl)) rfl
theorem kM_X3_52 : Cond.methodLink RX3 52 yX3_sortAt ∈ WL := wl_of (tb_3 (List.mem_of_getElem? (i := 124) rfl)) rfl
theorem kN_X3_sortAt : Cond.instanceMethod yX3_sortAt ∈ WL := wl_of (tb_3 (List.mem_of_getElem? (i := 126) rfl)) rfl
theorem kC_X3_sortAt : Cond.code yX3_sortAt cX3_sortAt 3 (some .int) ∈ WL := wl_of (tb_3 (List.mem_of_getElem? (i := 127) rfl)) rfl
theorem kM_X3_44 : Cond.methodLink RX3 44 yX3_keyHere ∈ WL := wl_of (tb_3 (List.mem_of_getElem? (i := 128) rfl)) rfl
theorem kN_X3_keyHere : Cond.instanceMethod yX3_keyHere ∈ WL := wl_of (tb_3 (List.mem_of_getElem? (i := 130) rfl)) rfl
theorem kC_X3_keyHere : Cond.code yX3_keyHere cX3_keyHere 1 (some .int) ∈ WL := wl_of (tb_3 (List.mem_of_getElem? (i := 131) rfl)) rfl
theorem kM_X3_58 : Cond.methodLink RX3 58 yX3_isHere ∈ WL := wl_of (tb_3 (List.mem_of_getElem? (i := 133) rfl)) rfl
theorem kN_X3_isHere : Cond.instanceMethod yX3_isHere ∈ WL := wl_of (tb_3 (List.mem_of_getElem? (i := 135) rfl)) rfl
theorem kC_X3_isHere : Cond.code yX3_isHere cX3_isHere 3 (some .boolean) ∈ WL := wl_of (tb_3 (List.mem_of_getElem? (i := 136) rfl)) rfl
theorem kM_X3_66 : Cond.methodLink RX3 66 yJ0_length_8abf5 ∈ WL := wl_of (tb_3 (List.mem_of_getElem? (i := 137) rfl)) rfl
theorem kN_J0_length_8abf5 : Cond.instanceMethod yJ0_length_8abf5 ∈ WL := wl_of (tb_3 (List.mem_of_getElem? (i := 138) rfl)) rfl
theorem kV_J0_length_8abf5 : Cond.selects RJ0 yJ0_length_8abf5 yJ0_length_8abf5 ∈ WL := wl_of (tb_3 (List.mem_of_getElem? (i := 139) rfl)) rfl
theorem kC_J0_length_8abf5 : Cond.code yJ0_length_8abf5 cJ0_length_8abf5 1 (some .int) ∈ WL := wl_of (tb_3 (List.mem_of_getElem? (i := 140) rfl)) rfl
theorem kM_J0_335 : Cond.methodLink RJ0 335 yJ0_coder_7d493 ∈ WL := wl_of (tb_3 (List.mem_of_getElem? (i := 141) rfl)) rfl
theorem kN_J0_coder_7d493 : Cond.instanceMethod yJ0_coder_7d493 ∈ WL := wl_of (tb_3 (List.mem_of_getElem? (i := 142) rfl)) rfl
theorem kV_J0_coder_7d493 : Cond.selects RJ0 yJ0_coder_7d493 yJ0_coder_7d493 ∈ WL := wl_of (tb_3 (List.mem_of_getElem? (i := 143) rfl)) rfl
theorem kC_J0_coder_7d493 : Cond.code yJ0_coder_7d493 cJ0_coder_7d493 1 (some .byte) ∈ WL := wl_of (tb_3 (List.mem_of_getElem? (i := 144) rfl)) rfl
theorem kF_J0_38 : Cond.fieldLink RJ0 38 "java/lang/String" "COMPACT_STRINGS" "Z" ∈ WL := wl_of (tb_3 (List.mem_of_getElem? (i := 145) rfl)) rfl
theorem kYS_J0_COMPACT_STRINGS : Cond.laysStatic RJ0 "COMPACT_STRINGS" "Z" ∈ lw_tbl := tb_3 (List.mem_of_getElem? (i := 146) rfl)
theorem kM_X3_70 : Cond.methodLink RX3 70 yJ0_charAt_5068e ∈ WL := wl_of (tb_3 (List.mem_of_getElem? (i := 147) rfl)) rfl
theorem kN_J0_charAt_5068e : Cond.instanceMethod yJ0_charAt_5068e ∈ WL := wl_of (tb_3 (List.mem_of_getElem? (i := 148) rfl)) rfl
theorem kV_J0_charAt_5068e : Cond.selects RJ0 yJ0_charAt_5068e yJ0_charAt_5068e ∈ WL := wl_of (tb_3 (List.mem_of_getElem? (i := 149) rfl)) rfl
theorem kC_J0_charAt_5068e : Cond.code yJ0_charAt_5068e cJ0_charAt_5068e 2 (some .char) ∈ WL := wl_of (tb_3 (List.mem_of_getElem? (i := 150) rfl)) rfl
theorem kM_J0_492 : Cond.methodLink RJ0 492 yJ0_isLatin1_aae02 ∈ WL := wl_of (tb_3 (List.mem_of_getElem? (i := 151) rfl)) rfl
theorem kN_J0_isLatin1_aae02 : Cond.instanceMethod yJ0_isLatin1_aae02 ∈ WL := wl_of (tb_3 (List.mem_of_getElem? (i := 152) rfl)) rfl
theorem kV_J0_isLatin1_aae02 : Cond.selects RJ0 yJ0_isLatin1_aae02 yJ0_isLatin1_aae02 ∈ WL := wl_of (tb_3 (List.mem_of_getElem? (i := 153) rfl)) rfl
theorem kC_J0_isLatin1_aae02 : Cond.code yJ0_isLatin1_aae02 cJ0_isLatin1_aae02 1 (some .boolean) ∈ WL := wl_of (tb_3 (List.mem_of_getElem? (i := 154) rfl)) rfl
theorem kM_J0_495 : Cond.methodLink RJ0 495 yJ1_charAt_3b067 ∈ WL := wl_of (tb_3 (List.mem_of_getElem? (i := 155) rfl)) rfl
theorem kS_J1_charAt_3b067 : Cond.static yJ1_charAt_3b067 ∈ WL := wl_of (tb_3 (List.mem_of_getElem? (i := 156) rfl)) rfl
theorem kC_J1_charAt_3b067 : Cond.code yJ1_charAt_3b067 cJ1_charAt_3b067 2 (some .char) ∈ WL := wl_of (tb_3 (List.mem_of_getElem? (i := 157) rfl)) rfl
theorem kM_J1_9 : Cond.methodLink RJ1 9 yJ0_checkIndex_df160 ∈ WL := wl_of (tb_3 (List.mem_of_getElem? (i := 158) rfl)) rfl
theorem kS_J0_checkIndex_df160 : Cond.static yJ0_checkIndex_df160 ∈ WL := wl_of (tb_3 (List.mem_of_getElem? (i := 159) rfl)) rfl
theorem kC_J0_checkIndex_df160 : Cond.code yJ0_checkIndex_df160 cJ0_checkIndex_df160 2 none ∈ WL := wl_of (tb_3 (List.mem_of_getElem? (i := 160) rfl)) rfl
theorem kF_J0_1053 : Cond.fieldLink RJ0 1053 "jdk/internal/util/Preconditions" "SIOOBE_FORMATTER" "Ljava/util/function/BiFunction;" ∈ WL := wl_of (tb_3 (List.mem_of_getElem? (i := 161) rfl)) rfl
theorem kYS_J3_SIOOBE_FORMATTER : Cond.laysStatic RJ3 "SIOOBE_FORMATTER" "Ljava/util/function/BiFunction;" ∈ lw_tbl := tb_3 (List.mem_of_getElem? (i := 162) rfl)
theorem kM_J0_1059 : Cond.methodLink RJ0 1059 yJ3_checkIndex_8e157 ∈ WL := wl_of (tb_3 (List.mem_of_getElem? (i := 163) rfl)) rfl
theorem kS_J3_checkIndex_8e157 : Cond.static yJ3_checkIndex_8e157 ∈ WL := wl_of (tb_3 (List.mem_of_getElem? (i := 164) rfl)) rfl
theorem kC_J3_checkIndex_8e157 : Cond.code yJ3_checkIndex_8e157 cJ3_checkIndex_8e157 3 (some .int) ∈ WL := wl_of (tb_3 (List.mem_of_getElem? (i := 165) rfl)) rfl
theorem kM_J0_498 : Cond.methodLink RJ0 498 yJ2_charAt_3b067 ∈ WL := wl_of (tb_3 (List.mem_of_getElem? (i := 166) rfl)) rfl
theorem kS_J2_charAt_3b067 : Cond.static yJ2_charAt_3b067 ∈ WL := wl_of (tb_3 (List.mem_of_getElem? (i := 167) rfl)) rfl
theorem kC_J2_charAt_3b067 : Cond.code yJ2_charAt_3b067 cJ2_charAt_3b067 2 (some .char) ∈ WL := wl_of (tb_3 (List.mem_of_getElem? (i := 168) rfl)) rfl
theorem kM_J2_67 : Cond.methodLink RJ2 67 yJ2_checkIndex_2214a ∈ WL := wl_of (tb_3 (List.mem_of_getElem? (i := 169) rfl)) rfl
theorem kS_J2_checkIndex_2214a : Cond.static yJ2_checkIndex_2214a ∈ WL := wl_of (tb_3 (List.mem_of_getElem? (i := 170) rfl)) rfl
theorem kC_J2_checkIndex_2214a : Cond.code yJ2_checkIndex_2214a cJ2_checkIndex_2214a 2 none ∈ WL := wl_of (tb_3 (List.mem_of_getElem? (i := 171) rfl)) rfl
theorem kM_J2_48 : Cond.methodLink RJ2 48 yJ2_length_9d52b ∈ WL := wl_of (tb_3 (List.mem_of_getElem? (i := 172) rfl)) rfl
theorem kS_J2_length_9d52b : Cond.static yJ2_length_9d52b ∈ WL := wl_of (tb_3 (List.mem_of_getElem? (i := 173) rfl)) rfl
theorem kC_J2_length_9d52b : Cond.code yJ2_length_9d52b cJ2_length_9d52b 1 (some .int) ∈ WL := wl_of (tb_3 (List.mem_of_getElem? (i := 174) rfl)) rfl
theorem kM_J2_414 : Cond.methodLink RJ2 414 yJ0_checkIndex_df160 ∈ WL := wl_of (tb_3 (List.mem_of_getElem? (i := 175) rfl)) rfl
theorem kM_J2_71 : Cond.methodLink RJ2 71 yJ2_getChar_3b067 ∈ WL := wl_of (tb_3 (List.mem_of_getElem? (i := 176) rfl)) rfl
theorem kS_J2_getChar_3b067 : Cond.static yJ2_getChar_3b067 ∈ WL := wl_of (tb_3 (List.mem_of_getElem? (i := 177) rfl)) rfl
theorem kC_J2_getChar_3b067 : Cond.code yJ2_getChar_3b067 cJ2_getChar_3b067 2 (some .char) ∈ WL := wl_of (tb_3 (List.mem_of_getElem? (i := 178) rfl)) rfl
theorem kF_J2_44 : Cond.fieldLink RJ2 44 "java/lang/StringUTF16" "$assertionsDisabled" "Z" ∈ WL := wl_of (tb_3 (List.mem_of_getElem? (i := 179) rfl)) rfl
theorem kYS_J2__assertionsDisabled : Cond.laysStatic RJ2 "$assertionsDisabled" "Z" ∈ lw_tbl := tb_3 (List.mem_of_getElem? (i := 180) rfl)
theorem kF_J2_59 : Cond.fieldLink RJ2 59 "java/lang/StringUTF16" "HI_BYTE_SHIFT" "I" ∈ WL := wl_of (tb_3 (List.mem_of_getElem? (i := 181) rfl)) rfl
theorem kYS_J2_HI_BYTE_SHIFT : Cond.laysStatic RJ2 "HI_BYTE_SHIFT" "I" ∈ lw_tbl := tb_3 (List.mem_of_getElem? (i := 182) rfl)
theorem kF_J2_63 : Cond.fieldLink RJ2 63 "java/lang/StringUTF16" "LO_BYTE_SHIFT" "I" ∈ WL := wl_of (tb_3 (List.mem_of_getElem? (i := 183) rfl)) rfl
theorem kYS_J2_LO_BYTE_SHIFT : Cond.laysStatic RJ2 "LO_BYTE_SHIFT" "I" ∈ lw_tbl := tb_3 (List.mem_of_getElem? (i := 184) rfl)
theorem kM_X3_48 : Cond.methodLink RX3 48 yX3_level ∈ WL := wl_of (tb_3 (List.mem_of_getElem? (i := 187) rfl)) rfl
theorem kN_X3_level : Cond.instanceMethod yX3_level ∈ WL := wl_of (tb_3 (List.mem_of_getElem? (i := 189) rfl)) rfl
theorem kC_X3_level : Cond.code yX3_level cX3_level 6 (some .boolean) ∈ WL := wl_of (tb_3 (List.mem_of_getElem? (i := 190) rfl)) rfl
theorem kM_X3_91 : Cond.methodLink RX3 91 yX3_side ∈ WL := wl_of (tb_3 (List.mem_of_getElem? (i := 191) rfl)) rfl
theorem kN_X3_side : Cond.instanceMethod yX3_side ∈ WL := wl_of (tb_3 (List.mem_of_getElem? (i := 193) rfl)) rfl
theorem kC_X3_side : Cond.code yX3_side cX3_side 4 (some .boolean) ∈ WL := wl_of (tb_3 (List.mem_of_getElem? (i := 194) rfl)) rfl
theorem kM_X3_102 : Cond.methodLink RX3 102 yX3_piece ∈ WL := wl_of (tb_3 (List.mem_of_getElem? (i := 195) rfl)) rfl
theorem kN_X3_piece : Cond.instanceMethod yX3_piece ∈ WL := wl_of (tb_3 (List.mem_of_getElem? (i := 197) rfl)) rfl
theorem kC_X3_piece : Cond.code yX3_piece cX3_piece 3 (some .boolean) ∈ WL := wl_of (tb_3 (List.mem_of_getElem? (i := 198) rfl)) rfl
theorem kM_X3_106 : Cond.methodLink RX3 106 yX3_negated ∈ WL := wl_of (tb_3 (List.mem_of_getElem? (i := 199) rfl)) rfl
theorem kN_X3_negated : Cond.instanceMethod yX3_negated ∈ WL := wl_of (tb_3 (List.mem_of_getElem? (i := 201) rfl)) rfl
theorem kC_X3_negated : Cond.code yX3_negated cX3_negated 3 (some .boolean) ∈ WL := wl_of (tb_3 (List.mem_of_getElem? (i := 202) rfl)) rfl
theorem kM_X3_98 : Cond.methodLink RX3 98 yX3_put ∈ WL := wl_of (tb_3 (List.mem_of_getElem? (i := 203) rfl)) rfl
theorem kN_X3_put : Cond.instanceMethod yX3_put ∈ WL := wl_of (tb_3 (List.mem_of_getElem? (i := 205) rfl)) rfl
theorem kC_X3_put : Cond.code yX3_put cX3_put 2 none ∈ WL := wl_of (tb_3 (List.mem_of_getElem? (i := 206) rfl)) rfl
theorem kM_X3_109 : Cond.methodLink RX3 109 yX3_enclosed ∈ WL := wl_of (tb_3 (List.mem_of_getElem? (i := 207) rfl)) rfl
theorem kN_X3_enclosed : Cond.instanceMethod yX3_enclosed ∈ WL := wl_of (tb_3 (List.mem_of_getElem? (i := 209) rfl)) rfl
theorem kC_X3_enclosed : Cond.code yX3_enclosed cX3_enclosed 3 (some .boolean) ∈ WL := wl_of (tb_3 (List.mem_of_getElem? (i := 210) rfl)) rfl
theorem kM_X3_112 : Cond.methodLink RX3 112 yX3_number ∈ WL := wl_of (tb_3 (List.mem_of_getElem? (i := 211) rfl)) rfl
theorem kN_X3_number : Cond.instanceMethod yX3_number ∈ WL := wl_of (tb_3 (List.mem_of_getElem? (i := 213) rfl)) rfl
theorem kC_X3_number : Cond.code yX3_number cX3_number 3 (some .boolean) ∈ WL := wl_of (tb_3 (List.mem_of_getElem? (i := 214) rfl)) rfl
theorem kM_X3_116 : Cond.methodLink RX3 116 yX3_name ∈ WL := wl_of (tb_3 (List.mem_of_getElem? (i := 215) rfl)) rfl
theorem kN_X3_name : Cond.instanceMethod yX3_name ∈ WL := wl_of (tb_3 (List.mem_of_getElem? (i := 217) rfl)) rfl
theorem kC_X3_name : Cond.code yX3_name cX3_name 3 (some .boolean) ∈ WL := wl_of (tb_3 (List.mem_of_getElem? (i := 218) rfl)) rfl
theorem kM_X3_78 : Cond.methodLink RX3 78 yJ0_indexOf_0f7a4 ∈ WL := wl_of (tb_3 (List.mem_of_getElem? (i := 222) rfl)) rfl
theorem kN_J0_indexOf_0f7a4 : Cond.instanceMethod yJ0_indexOf_0f7a4 ∈ WL := wl_of (tb_3 (List.mem_of_getElem? (i := 223) rfl)) rfl
theorem kV_J0_indexOf_0f7a4 : Cond.selects RJ0 yJ0_indexOf_0f7a4 yJ0_indexOf_0f7a4 ∈ WL := wl_of (tb_3 (List.mem_of_getElem? (i := 224) rfl)) rfl
theorem kC_J0_indexOf_0f7a4 : Cond.code yJ0_indexOf_0f7a4 cJ0_indexOf_0f7a4 2 (some .int) ∈ WL := wl_of (tb_3 (List.mem_of_getElem? (i := 225) rfl)) rfl
theorem kM_J0_633 : Cond.methodLink RJ0 633 yJ0_indexOf_7cf53 ∈ WL := wl_of (tb_3 (List.mem_of_getElem? (i := 226) rfl)) rfl
theorem kN_J0_indexOf_7cf53 : Cond.instanceMethod yJ0_indexOf_7cf53 ∈ WL := wl_of (tb_3 (List.mem_of_getElem? (i := 227) rfl)) rfl
theorem kV_J0_indexOf_7cf53 : Cond.selects RJ0 yJ0_indexOf_7cf53 yJ0_indexOf_7cf53 ∈ WL := wl_of (tb_3 (List.mem_of_getElem? (i := 228) rfl)) rfl
theorem kC_J0_indexOf_7cf53 : Cond.code yJ0_indexOf_7cf53 cJ0_indexOf_7cf53 3 (some .int) ∈ WL := wl_of (tb_3 (List.mem_of_getElem? (i := 229) rfl)) rfl
theorem kM_J0_505 : Cond.methodLink RJ0 505 yJ0_length_8abf5 ∈ WL := wl_of (tb_3 (List.mem_of_getElem? (i := 230) rfl)) rfl
theorem kM_J0_637 : Cond.methodLink RJ0 637 yJ1_indexOf_4cfef ∈ WL := wl_of (tb_3 (List.mem_of_getElem? (i := 231) rfl)) rfl
theorem kS_J1_indexOf_4cfef : Cond.static yJ1_indexOf_4cfef ∈ WL := wl_of (tb_3 (List.mem_of_getElem? (i := 232) rfl)) rfl
theorem kC_J1_indexOf_4cfef : Cond.code yJ1_indexOf_4cfef cJ1_indexOf_4cfef 4 (some .int) ∈ WL := wl_of (tb_3 (List.mem_of_getElem? (i := 233) rfl)) rfl
theorem kM_J1_88 : Cond.methodLink RJ1 88 yJ1_canEncode_9a6ad ∈ WL := wl_of (tb_3 (List.mem_of_getElem? (i := 234) rfl)) rfl
theorem kS_J1_canEncode_9a6ad : Cond.static yJ1_canEncode_9a6ad ∈ WL := wl_of (tb_3 (List.mem_of_getElem? (i := 235) rfl)) rfl
theorem kC_J1_canEncode_9a6ad : Cond.code yJ1_canEncode_9a6ad cJ1_canEncode_9a6ad 1 (some .boolean) ∈ WL := wl_of (tb_3 (List.mem_of_getElem? (i := 236) rfl)) rfl
theorem kM_J1_92 : Cond.methodLink RJ1 92 Lib.Math.max.name ∈ WL := wl_of (tb_3 (List.mem_of_getElem? (i := 237) rfl)) rfl
theorem kM_J1_38 : Cond.methodLink RJ1 38 Lib.Math.min.name ∈ WL := wl_of (tb_3 (List.mem_of_getElem? (i := 238) rfl)) rfl
theorem kM_J1_95 : Cond.methodLink RJ1 95 yJ1_indexOfChar_4cfef ∈ WL := wl_of (tb_3 (List.mem_of_getElem? (i := 239) rfl)) rfl
theorem kS_J1_indexOfChar_4cfef : Cond.static yJ1_indexOfChar_4cfef ∈ WL := wl_of (tb_4 (List.mem_of_getElem? (i := 0) rfl)) rfl
theorem kC_J1_indexOfChar_4cfef : Cond.code yJ1_indexOfChar_4cfef cJ1_indexOfChar_4cfef 6 (some .int) ∈ WL := wl_of (tb_4 (List.mem_of_getElem? (i := 1) rfl)) rfl
theorem kM_J0_640 : Cond.methodLink RJ0 640 yJ2_indexOf_4cfef ∈ WL := wl_of (tb_4 (List.mem_of_getElem? (i := 2) rfl)) rfl
theorem kS_J2_indexOf_4cfef : Cond.static yJ2_indexOf_4cfef ∈ WL := wl_of (tb_4 (List.mem_of_getElem? (i := 3) rfl)) rfl
theorem kC_J2_indexOf_4cfef : Cond.code yJ2_indexOf_4cfef cJ2_indexOf_4cfef 4 (some .int) ∈ WL := wl_of (tb_4 (List.mem_of_getElem? (i := 4) rfl)) rfl
theorem kM_J2_224 : Cond.methodLink RJ2 224 Lib.Math.max.name ∈ WL := wl_of (tb_4 (List.mem_of_getElem? (i := 5) rfl)) rfl
theorem kM_J2_183 : Cond.methodLink RJ2 183 Lib.Math.min.name ∈ WL := wl_of (tb_4 (List.mem_of_getElem? (i := 6) rfl)) rfl
theorem kK_J2_227 : Cond.constant RJ2 227 (65536) ∈ WL := wl_of (tb_4 (List.mem_of_getElem? (i := 7) rfl)) rfl
theorem kM_J2_228 : Cond.methodLink RJ2 228 yJ2_indexOfChar_4cfef ∈ WL := wl_of (tb_4 (List.mem_of_getElem? (i := 8) rfl)) rfl
theorem kS_J2_indexOfChar_4cfef : Cond.static yJ2_indexOfChar_4cfef ∈ WL := wl_of (tb_4 (List.mem_of_getElem? (i := 9) rfl)) rfl
theorem kC_J2_indexOfChar_4cfef : Cond.code yJ2_indexOfChar_4cfef cJ2_indexOfChar_4cfef 4 (some .int) ∈ WL := wl_of (tb_4 (List.mem_of_getElem? (i := 10) rfl)) rfl
theorem kM_J2_96 : Cond.methodLink RJ2 96 yJ2_checkBoundsBeginEnd_d044e ∈ WL := wl_of (tb_4 (List.mem_of_getElem? (i := 11) rfl)) rfl
theorem kS_J2_checkBoundsBeginEnd_d044e : Cond.static yJ2_checkBoundsBeginEnd_d044e ∈ WL := wl_of (tb_4 (List.mem_of_getElem? (i := 12) rfl)) rfl
theorem kC_J2_checkBoundsBeginEnd_d044e : Cond.code yJ2_checkBoundsBeginEnd_d044e cJ2_checkBoundsBeginEnd_d044e 3 none ∈ WL := wl_of (tb_4 (List.mem_of_getElem? (i := 13) rfl)) rfl
theorem kM_J2_241 : Cond.methodLink RJ2 241 yJ0_checkBoundsBeginEnd_23922 ∈ WL := wl_of (tb_4 (List.mem_of_getElem? (i := 14) rfl)) rfl
theorem kS_J0_checkBoundsBeginEnd_23922 : Cond.static yJ0_checkBoundsBeginEnd_23922 ∈ WL := wl_of (tb_4 (List.mem_of_getElem? (i := 15) rfl)) rfl
theorem kC_J0_checkBoundsBeginEnd_23922 : Cond.code yJ0_checkBoundsBeginEnd_23922 cJ0_checkBoundsBeginEnd_23922 3 none ∈ WL := wl_of (tb_4 (List.mem_of_getElem? (i := 16) rfl)) rfl
theorem kM_J0_1062 : Cond.methodLink RJ0 1062 yJ3_checkFromToIndex_8c36e ∈ WL := wl_of (tb_4 (List.mem_of_getElem? (i := 17) rfl)) rfl
theorem kS_J3_checkFromToIndex_8c36e : Cond.static yJ3_checkFromToIndex_8c36e ∈ WL := wl_of (tb_4 (List.mem_of_getElem? (i := 18) rfl)) rfl
theorem kC_J3_checkFromToIndex_8c36e : Cond.code yJ3_checkFromToIndex_8c36e cJ3_checkFromToIndex_8c36e 4 (some .int) ∈ WL := wl_of (tb_4 (List.mem_of_getElem? (i := 19) rfl)) rfl
theorem kM_J2_244 : Cond.methodLink RJ2 244 yJ2_indexOfCharUnsafe_4cfef ∈ WL := wl_of (tb_4 (List.mem_of_getElem? (i := 20) rfl)) rfl
theorem kS_J2_indexOfCharUnsafe_4cfef : Cond.static yJ2_indexOfCharUnsafe_4cfef ∈ WL := wl_of (tb_4 (List.mem_of_getElem? (i := 21) rfl)) rfl
theorem kC_J2_indexOfCharUnsafe_4cfef : Cond.code yJ2_indexOfCharUnsafe_4cfef cJ2_indexOfCharUnsafe_4cfef 5 (some .int) ∈ WL := wl_of (tb_4 (List.mem_of_getElem? (i := 22) rfl)) rfl
theorem kM_J2_232 : Cond.methodLink RJ2 232 yJ2_indexOfSupplementary_4cfef ∈ WL := wl_of (tb_4 (List.mem_of_getElem? (i := 23) rfl)) rfl
theorem kS_J2_indexOfSupplementary_4cfef : Cond.static yJ2_indexOfSupplementary_4cfef ∈ WL := wl_of (tb_4 (List.mem_of_getElem? (i := 24) rfl)) rfl
theorem kC_J2_indexOfSupplementary_4cfef : Cond.code yJ2_indexOfSupplementary_4cfef cJ2_indexOfSupplementary_4cfef 7 (some .int) ∈ WL := wl_of (tb_4 (List.mem_of_getElem? (i := 25) rfl)) rfl
theorem kM_J2_164 : Cond.methodLink RJ2 164 yJ11_isValidCodePoint_9a6ad ∈ WL := wl_of (tb_4 (List.mem_of_getElem? (i := 26) rfl)) rfl
theorem kS_J11_isValidCodePoint_9a6ad : Cond.static yJ11_isValidCodePoint_9a6ad ∈ WL := wl_of (tb_4 (List.mem_of_getElem? (i := 27) rfl)) rfl
theorem kC_J11_isValidCodePoint_9a6ad : Cond.code yJ11_isValidCodePoint_9a6ad cJ11_isValidCodePoint_9a6ad 2 (some .boolean) ∈ WL := wl_of (tb_4 (List.mem_of_getElem? (i := 28) rfl)) rfl
theorem kM_J2_157 : Cond.methodLink RJ2 157 yJ11_highSurrogate_5068e ∈ WL := wl_of (tb_4 (List.mem_of_getElem? (i := 29) rfl)) rfl
theorem kS_J11_highSurrogate_5068e : Cond.static yJ11_highSurrogate_5068e ∈ WL := wl_of (tb_4 (List.mem_of_getElem? (i := 30) rfl)) rfl
theorem kC_J11_highSurrogate_5068e : Cond.code yJ11_highSurrogate_5068e cJ11_highSurrogate_5068e 1 (some .char) ∈ WL := wl_of (tb_4 (List.mem_of_getElem? (i := 31) rfl)) rfl
theorem kK_J11_110 : Cond.constant RJ11 110 (55232) ∈ WL := wl_of (tb_4 (List.mem_of_getElem? (i := 32) rfl)) rfl
theorem kM_J2_161 : Cond.methodLink RJ2 161 yJ11_lowSurrogate_5068e ∈ WL := wl_of (tb_4 (List.mem_of_getElem? (i := 33) rfl)) rfl
theorem kS_J11_lowSurrogate_5068e : Cond.static yJ11_lowSurrogate_5068e ∈ WL := wl_of (tb_4 (List.mem_of_getElem? (i := 34) rfl)) rfl
theorem kC_J11_lowSurrogate_5068e : Cond.code yJ11_lowSurrogate_5068e cJ11_lowSurrogate_5068e 1 (some .char) ∈ WL := wl_of (tb_4 (List.mem_of_getElem? (i := 35) rfl)) rfl
theorem kK_J11_76 : Cond.constant RJ11 76 (56320) ∈ WL := wl_of (tb_4 (List.mem_of_getElem? (i := 36) rfl)) rfl
theorem kM_X3_94 : Cond.methodLink RX3 94 yX3_joinsHere ∈ WL := wl_of (tb_4 (List.mem_of_getElem? (i := 37) rfl)) rfl
theorem kN_X3_joinsHere : Cond.instanceMethod yX3_joinsHere ∈ WL := wl_of (tb_4 (List.mem_of_getElem? (i := 39) rfl)) rfl
theorem kC_X3_joinsHere : Cond.code yX3_joinsHere cX3_joinsHere 2 (some .boolean) ∈ WL := wl_of (tb_4 (List.mem_of_getElem? (i := 40) rfl)) rfl
theorem kM_X3_74 : Cond.methodLink RX3 74 yX3_signsOf ∈ WL := wl_of (tb_4 (List.mem_of_getElem? (i := 41) rfl)) rfl
theorem kS_X3_signsOf : Cond.static yX3_signsOf ∈ WL := wl_of (tb_4 (List.mem_of_getElem? (i := 42) rfl)) rfl
theorem kC_X3_signsOf : Cond.code yX3_signsOf cX3_signsOf 1 (some (.object "java/lang/String")) ∈ WL := wl_of (tb_4 (List.mem_of_getElem? (i := 43) rfl)) rfl
theorem kM_X7_258 : Cond.methodLink RX7 258 yX0_write ∈ WL := wl_of (tb_4 (List.mem_of_getElem? (i := 49) rfl)) rfl
theorem kN_X0_write : Cond.instanceMethod yX0_write ∈ WL := wl_of (tb_4 (List.mem_of_getElem? (i := 50) rfl)) rfl
theorem kV_X0_write : Cond.selects RX0 yX0_write yX0_write ∈ WL := wl_of (tb_4 (List.mem_of_getElem? (i := 51) rfl)) rfl
theorem kC_X0_write : Cond.code yX0_write cX0_write 3 none ∈ WL := wl_of (tb_4 (List.mem_of_getElem? (i := 52) rfl)) rfl
theorem kM_X0_42 : Cond.methodLink RX0 42 arraycopyName ∈ WL := wl_of (tb_4 (List.mem_of_getElem? (i := 53) rfl)) rfl
theorem kM_L_117 : Cond.methodLink RL 117 yX7_textTold ∈ WL := wl_of (tb_4 (List.mem_of_getElem? (i := 55) rfl)) rfl
theorem kN_X7_textTold : Cond.instanceMethod yX7_textTold ∈ WL := wl_of (tb_4 (List.mem_of_getElem? (i := 56) rfl)) rfl
theorem kV_X7_textTold : Cond.selects RX7 yX7_textTold yX7_textTold ∈ WL := wl_of (tb_4 (List.mem_of_getElem? (i := 57) rfl)) rfl
theorem kC_X7_textTold : Cond.code yX7_textTold cX7_textTold 3 (some .int) ∈ WL := wl_of (tb_4 (List.mem_of_getElem? (i := 58) rfl)) rfl
theorem kM_L_121 : Cond.methodLink RL 121 yX7_why ∈ WL := wl_of (tb_4 (List.mem_of_getElem? (i := 59) rfl)) rfl
theorem kN_X7_why : Cond.instanceMethod yX7_why ∈ WL := wl_of (tb_4 (List.mem_of_getElem? (i := 60) rfl)) rfl
theorem kV_X7_why : Cond.selects RX7 yX7_why yX7_why ∈ WL := wl_of (tb_4 (List.mem_of_getElem? (i := 61) rfl)) rfl
theorem kC_X7_why : Cond.code yX7_why cX7_why 3 (some .int) ∈ WL := wl_of (tb_4 (List.mem_of_getElem? (i := 62) rfl)) rfl
theorem kM_L_125 : Cond.methodLink RL 125 yX7_sheet ∈ WL := wl_of (tb_4 (List.mem_of_getElem? (i := 63) rfl)) rfl
theorem kN_X7_sheet : Cond.instanceMethod yX7_sheet ∈ WL := wl_of (tb_4 (List.mem_of_getElem? (i := 64) rfl)) rfl
theorem kV_X7_sheet : Cond.selects RX7 yX7_sheet yX7_sheet ∈ WL := wl_of (tb_4 (List.mem_of_getElem? (i := 65) rfl)) rfl
theorem kC_X7_sheet : Cond.code yX7_sheet cX7_sheet 4 (some .int) ∈ WL := wl_of (tb_4 (List.mem_of_getElem? (i := 66) rfl)) rfl
theorem kM_X7_268 : Cond.methodLink RX7 268 yX4_begin ∈ WL := wl_of (tb_4 (List.mem_of_getElem? (i := 67) rfl)) rfl
theorem kN_X4_begin : Cond.instanceMethod yX4_begin ∈ WL := wl_of (tb_4 (List.mem_of_getElem? (i := 68) rfl)) rfl
theorem kV_X4_begin : Cond.selects RX4 yX4_begin yX4_begin ∈ WL := wl_of (tb_4 (List.mem_of_getElem? (i := 69) rfl)) rfl
theorem kC_X4_begin : Cond.code yX4_begin cX4_begin 4 none ∈ WL := wl_of (tb_4 (List.mem_of_getElem? (i := 70) rfl)) rfl
theorem kK_X7_272 : Cond.constant RX7 272 (-1000000014) ∈ WL := wl_of (tb_4 (List.mem_of_getElem? (i := 71) rfl)) rfl
theorem kM_L_129 : Cond.methodLink RL 129 yX7_mark ∈ WL := wl_of (tb_4 (List.mem_of_getElem? (i := 72) rfl)) rfl
theorem kN_X7_mark : Cond.instanceMethod yX7_mark ∈ WL := wl_of (tb_4 (List.mem_of_getElem? (i := 73) rfl)) rfl
theorem kV_X7_mark : Cond.selects RX7 yX7_mark yX7_mark ∈ WL := wl_of (tb_4 (List.mem_of_getElem? (i := 74) rfl)) rfl
theorem kC_X7_mark : Cond.code yX7_mark cX7_mark 5 (some .int) ∈ WL := wl_of (tb_4 (List.mem_of_getElem? (i := 75) rfl)) rfl
theorem kM_X7_273 : Cond.methodLink RX7 273 yX4_hasNo ∈ WL := wl_of (tb_4 (List.mem_of_getElem? (i := 76) rfl)) rfl
theorem kK_X7_276 : Cond.constant RX7 276 (-1000000013) ∈ WL := wl_of (tb_4 (List.mem_of_getElem? (i := 77) rfl)) rfl
theorem kK_X7_280 : Cond.constant RX7 280 (-99999) ∈ WL := wl_of (tb_4 (List.mem_of_getElem? (i := 78) rfl)) rfl
theorem kK_X7_281 : Cond.constant RX7 281 (99999) ∈ WL := wl_of (tb_4 (List.mem_of_getElem? (i := 79) rfl)) rfl
theorem kM_L_133 : Cond.methodLink RL 133 yX7_pour ∈ WL := wl_of (tb_4 (List.mem_of_getElem? (i := 80) rfl)) rfl
theorem kN_X7_pour : Cond.instanceMethod yX7_pour ∈ WL := wl_of (tb_4 (List.mem_of_getElem? (i := 81) rfl)) rfl
theorem kV_X7_pour : Cond.selects RX7 yX7_pour yX7_pour ∈ WL := wl_of (tb_4 (List.mem_of_getElem? (i := 82) rfl)) rfl
theorem kC_X7_pour : Cond.code yX7_pour cX7_pour 7 (some .int) ∈ WL := wl_of (tb_4 (List.mem_of_getElem? (i := 83) rfl)) rfl
theorem kM_L_137 : Cond.methodLink RL 137 yX7_reads ∈ WL := wl_of (tb_4 (List.mem_of_getElem? (i := 84) rfl)) rfl
theorem kN_X7_reads : Cond.instanceMethod yX7_reads ∈ WL := wl_of (tb_4 (List.mem_of_getElem? (i := 85) rfl)) rfl
theorem kV_X7_reads : Cond.selects RX7 yX7_reads yX7_reads ∈ WL := wl_of (tb_4 (List.mem_of_getElem? (i := 86) rfl)) rfl
theorem kC_X7_reads : Cond.code yX7_reads cX7_reads 4 (some .int) ∈ WL := wl_of (tb_4 (List.mem_of_getElem? (i := 87) rfl)) rfl
theorem kM_L_141 : Cond.methodLink RL 141 yX7_copy ∈ WL := wl_of (tb_4 (List.mem_of_getElem? (i := 88) rfl)) rfl
theorem kN_X7_copy : Cond.instanceMethod yX7_copy ∈ WL := wl_of (tb_4 (List.mem_of_getElem? (i := 89) rfl)) rfl
theorem kV_X7_copy : Cond.selects RX7 yX7_copy yX7_copy ∈ WL := wl_of (tb_4 (List.mem_of_getElem? (i := 90) rfl)) rfl
theorem kC_X7_copy : Cond.code yX7_copy cX7_copy 8 (some .int) ∈ WL := wl_of (tb_4 (List.mem_of_getElem? (i := 91) rfl)) rfl
theorem kM_X7_282 : Cond.methodLink RX7 282 yX4_lacks ∈ WL := wl_of (tb_4 (List.mem_of_getElem? (i := 92) rfl)) rfl
theorem kN_X4_lacks : Cond.instanceMethod yX4_lacks ∈ WL := wl_of (tb_4 (List.mem_of_getElem? (i := 93) rfl)) rfl
theorem kV_X4_lacks : Cond.selects RX4 yX4_lacks yX4_lacks ∈ WL := wl_of (tb_4 (List.mem_of_getElem? (i := 94) rfl)) rfl
theorem kC_X4_lacks : Cond.code yX4_lacks cX4_lacks 3 (some .boolean) ∈ WL := wl_of (tb_4 (List.mem_of_getElem? (i := 95) rfl)) rfl
theorem kM_X7_285 : Cond.methodLink RX7 285 arraycopyName ∈ WL := wl_of (tb_4 (List.mem_of_getElem? (i := 96) rfl)) rfl
theorem kM_L_146 : Cond.methodLink RL 146 yX7_lay ∈ WL := wl_of (tb_4 (List.mem_of_getElem? (i := 97) rfl)) rfl
theorem kN_X7_lay : Cond.instanceMethod yX7_lay ∈ WL := wl_of (tb_4 (List.mem_of_getElem? (i := 98) rfl)) rfl
theorem kV_X7_lay : Cond.selects RX7 yX7_lay yX7_lay ∈ WL := wl_of (tb_4 (List.mem_of_getElem? (i := 99) rfl)) rfl
theorem kC_X7_lay : Cond.code yX7_lay cX7_lay 6 (some .int) ∈ WL := wl_of (tb_4 (List.mem_of_getElem? (i := 100) rfl)) rfl
theorem kM_X7_291 : Cond.methodLink RX7 291 yX7_isNoSlot ∈ WL := wl_of (tb_4 (List.mem_of_getElem? (i := 101) rfl)) rfl
theorem kS_X7_isNoSlot : Cond.static yX7_isNoSlot ∈ WL := wl_of (tb_4 (List.mem_of_getElem? (i := 102) rfl)) rfl
theorem kC_X7_isNoSlot : Cond.code yX7_isNoSlot cX7_isNoSlot 1 (some .boolean) ∈ WL := wl_of (tb_4 (List.mem_of_getElem? (i := 103) rfl)) rfl
theorem kM_X7_305 : Cond.methodLink RX7 305 yX4_become ∈ WL := wl_of (tb_4 (List.mem_of_getElem? (i := 104) rfl)) rfl
theorem kN_X4_become : Cond.instanceMethod yX4_become ∈ WL := wl_of (tb_4 (List.mem_of_getElem? (i := 105) rfl)) rfl
theorem kV_X4_become : Cond.selects RX4 yX4_become yX4_become ∈ WL := wl_of (tb_4 (List.mem_of_getElem? (i := 106) rfl)) rfl
theorem kC_X4_become : Cond.code yX4_become cX4_become 2 none ∈ WL := wl_of (tb_4 (List.mem_of_getElem? (i := 107) rfl)) rfl
theorem kM_X4_22 : Cond.methodLink RX4 22 arraycopyName ∈ WL := wl_of (tb_4 (List.mem_of_getElem? (i := 108) rfl)) rfl
theorem kM_L_150 : Cond.methodLink RL 150 yX7_ask ∈ WL := wl_of (tb_4 (List.mem_of_getElem? (i := 109) rfl)) rfl
theorem kN_X7_ask : Cond.instanceMethod yX7_ask ∈ WL := wl_of (tb_4 (List.mem_of_getElem? (i := 110) rfl)) rfl
theorem kV_X7_ask : Cond.selects RX7 yX7_ask yX7_ask ∈ WL := wl_of (tb_4 (List.mem_of_getElem? (i := 111) rfl)) rfl
theorem kC_X7_ask : Cond.code yX7_ask cX7_ask 5 (some .int) ∈ WL := wl_of (tb_4 (List.mem_of_getElem? (i := 112) rfl)) rfl
theorem kM_X7_311 : Cond.methodLink RX7 311 yX5_isNot ∈ WL := wl_of (tb_4 (List.mem_of_getElem? (i := 113) rfl)) rfl
theorem kN_X5_isNot : Cond.instanceMethod yX5_isNot ∈ WL := wl_of (tb_4 (List.mem_of_getElem? (i := 114) rfl)) rfl
theorem kV_X5_isNot : Cond.selects RX5 yX5_isNot yX5_isNot ∈ WL := wl_of (tb_4 (List.mem_of_getElem? (i := 115) rfl)) rfl
theorem kC_X5_isNot : Cond.code yX5_isNot cX5_isNot 2 (some .int) ∈ WL := wl_of (tb_4 (List.mem_of_getElem? (i := 116) rfl)) rfl
theorem kK_X5_31 : Cond.constant RX5 31 (-1000000011) ∈ WL := wl_of (tb_4 (List.mem_of_getElem? (i := 117) rfl)) rfl
theorem kK_X5_32 : Cond.constant RX5 32 (-1000000012) ∈ WL := wl_of (tb_4 (List.mem_of_getElem? (i := 118) rfl)) rfl
theorem kM_L_154 : Cond.methodLink RL 154 yX7_item ∈ WL := wl_of (tb_4 (List.mem_of_getElem? (i := 119) rfl)) rfl
theorem kN_X7_item : Cond.instanceMethod yX7_item ∈ WL := wl_of (tb_4 (List.mem_of_getElem? (i := 120) rfl)) rfl
theorem kV_X7_item : Cond.selects RX7 yX7_item yX7_item ∈ WL := wl_of (tb_4 (List.mem_of_getElem? (i := 121) rfl)) rfl
theorem kC_X7_item : Cond.code yX7_item cX7_item 5 (some .int) ∈ WL := wl_of (tb_4 (List.mem_of_getElem? (i := 122) rfl)) rfl
theorem kM_L_158 : Cond.methodLink RL 158 yX7_rest ∈ WL := wl_of (tb_4 (List.mem_of_getElem? (i := 123) rfl)) rfl
theorem kN_X7_rest : Cond.instanceMethod yX7_rest ∈ WL := wl_of (tb_4 (List.mem_of_getElem? (i := 124) rfl)) rfl
theorem kV_X7_rest : Cond.selects RX7 yX7_rest yX7_rest ∈ WL := wl_of (tb_4 (List.mem_of_getElem? (i := 125) rfl)) rfl
theorem kC_X7_rest : Cond.code yX7_rest cX7_rest 4 (some .int) ∈ WL := wl_of (tb_4 (List.mem_of_getElem? (i := 126) rfl)) rfl
theorem kM_L_162 : Cond.methodLink RL 162 yX7_tell ∈ WL := wl_of (tb_4 (List.mem_of_getElem? (i := 127) rfl)) rfl
theorem kN_X7_tell : Cond.instanceMethod yX7_tell ∈ WL := wl_of (tb_4 (List.mem_of_getElem? (i := 128) rfl)) rfl
theorem kV_X7_tell : Cond.selects RX7 yX7_tell yX7_tell ∈ WL := wl_of (tb_4 (List.mem_of_getElem? (i := 129) rfl)) rfl
theorem kC_X7_tell : Cond.code yX7_tell cX7_tell 2 (some .int) ∈ WL := wl_of (tb_4 (List.mem_of_getElem? (i := 130) rfl)) rfl
theorem kM_L_166 : Cond.methodLink RL 166 yX7_check ∈ WL := wl_of (tb_4 (List.mem_of_getElem? (i := 131) rfl)) rfl
theorem kN_X7_check : Cond.instanceMethod yX7_check ∈ WL := wl_of (tb_4 (List.mem_of_getElem? (i := 132) rfl)) rfl
theorem kV_X7_check : Cond.selects RX7 yX7_check yX7_check ∈ WL := wl_of (tb_4 (List.mem_of_getElem? (i := 133) rfl)) rfl
theorem kC_X7_check : Cond.code yX7_check cX7_check 6 (some .int) ∈ WL := wl_of (tb_4 (List.mem_of_getElem? (i := 134) rfl)) rfl
theorem kM_L_170 : Cond.methodLink RL 170 yX7_keep ∈ WL := wl_of (tb_4 (List.mem_of_getElem? (i := 135) rfl)) rfl
theorem kN_X7_keep : Cond.instanceMethod yX7_keep ∈ WL := wl_of (tb_4 (List.mem_of_getElem? (i := 136) rfl)) rfl
theorem kV_X7_keep : Cond.selects RX7 yX7_keep yX7_keep ∈ WL := wl_of (tb_4 (List.mem_of_getElem? (i := 137) rfl)) rfl
theorem kC_X7_keep : Cond.code yX7_keep cX7_keep 1 (some .int) ∈ WL := wl_of (tb_4 (List.mem_of_getElem? (i := 138) rfl)) rfl
theorem kM_L_174 : Cond.methodLink RL 174 yX7_back ∈ WL := wl_of (tb_4 (List.mem_of_getElem? (i := 139) rfl)) rfl
theorem kN_X7_back : Cond.instanceMethod yX7_back ∈ WL := wl_of (tb_4 (List.mem_of_getElem? (i := 140) rfl)) rfl
theorem kV_X7_back : Cond.selects RX7 yX7_back yX7_back ∈ WL := wl_of (tb_4 (List.mem_of_getElem? (i := 141) rfl)) rfl
theorem kC_X7_back : Cond.code yX7_back cX7_back 1 (some .int) ∈ WL := wl_of (tb_4 (List.mem_of_getElem? (i := 142) rfl)) rfl
theorem kM_L_178 : Cond.methodLink RL 178 yX7_count ∈ WL := wl_of (tb_4 (List.mem_of_getElem? (i := 143) rfl)) rfl
theorem kN_X7_count : Cond.instanceMethod yX7_count ∈ WL := wl_of (tb_4 (List.mem_of_getElem? (i := 144) rfl)) rfl
theorem kV_X7_count : Cond.selects RX7 yX7_count yX7_count ∈ WL := wl_of (tb_4 (List.mem_of_getElem? (i := 145) rfl)) rfl
theorem kC_X7_count : Cond.code yX7_count cX7_count 2 (some .int) ∈ WL := wl_of (tb_4 (List.mem_of_getElem? (i := 146) rfl)) rfl
theorem kM_X7_314 : Cond.methodLink RX7 314 yJ6_bitCount_0f7a4 ∈ WL := wl_of (tb_4 (List.mem_of_getElem? (i := 147) rfl)) rfl
theorem kCL_L_10 : Cond.classLink RL 10 RX8 ∈ WL := wl_of (tb_4 (List.mem_of_getElem? (i := 148) rfl)) rfl
theorem kIn_X8 : Cond.instantiable RX8 31 ∈ WL := wl_of (tb_4 (List.mem_of_getElem? (i := 149) rfl)) rfl
theorem kM_L_12 : Cond.methodLink RL 12 yX8_init ∈ WL := wl_of (tb_4 (List.mem_of_getElem? (i := 150) rfl)) rfl
theorem kN_X8_init : Cond.instanceMethod yX8_init ∈ WL := wl_of (tb_4 (List.mem_of_getElem? (i := 151) rfl)) rfl
theorem kC_X8_init : Cond.code yX8_init cX8_init 2 none ∈ WL := wl_of (tb_4 (List.mem_of_getElem? (i := 152) rfl)) rfl
theorem kM_X8_1 : Cond.methodLink RX8 1 objectInit ∈ WL := wl_of (tb_4 (List.mem_of_getElem? (i := 153) rfl)) rfl
theorem kF_X8_7 : Cond.fieldLink RX8 7 "HalfFriendsModel" "s" "[I" ∈ WL := wl_of (tb_4 (List.mem_of_getElem? (i := 154) rfl)) rfl
theorem kF_X8_13 : Cond.fieldLink RX8 13 "HalfFriendsModel" "image" "[I" ∈ WL := wl_of (tb_4 (List.mem_of_getElem? (i := 155) rfl)) rfl
theorem kF_X8_16 : Cond.fieldLink RX8 16 "HalfFriendsModel" "aside" "[I" ∈ WL := wl_of (tb_4 (List.mem_of_getElem? (i := 156) rfl)) rfl
theorem kF_X8_339 : Cond.fieldLink RX8 339 "HalfFriendsModel" "hasImage" "Z" ∈ WL := wl_of (tb_4 (List.mem_of_getElem? (i := 157) rfl)) rfl
theorem kF_X8_19 : Cond.fieldLink RX8 19 "HalfFriendsModel" "tSort" "[I" ∈ WL := wl_of (tb_4 (List.mem_of_getElem? (i := 158) rfl)) rfl
theorem kF_X8_22 : Cond.fieldLink RX8 22 "HalfFriendsModel" "tSize" "[I" ∈ WL := wl_of (tb_4 (List.mem_of_getElem? (i := 159) rfl)) rfl
theorem kF_X8_25 : Cond.fieldLink RX8 25 "HalfFriendsModel" "tNumber" "[I" ∈ WL := wl_of (tb_4 (List.mem_of_getElem? (i := 160) rfl)) rfl
theorem kF_X8_28 : Cond.fieldLink RX8 28 "HalfFriendsModel" "held" "[I" ∈ WL := wl_of (tb_4 (List.mem_of_getElem? (i := 161) rfl)) rfl
theorem kF_X8_31 : Cond.fieldLink RX8 31 "HalfFriendsModel" "heldNumber" "[I" ∈ WL := wl_of (tb_4 (List.mem_of_getElem? (i := 162) rfl)) rfl
theorem kF_X8_34 : Cond.fieldLink RX8 34 "HalfFriendsModel" "heldWorth" "[I" ∈ WL := wl_of (tb_4 (List.mem_of_getElem? (i := 163) rfl)) rfl
theorem kF_X8_37 : Cond.fieldLink RX8 37 "HalfFriendsModel" "heldSize" "[I" ∈ WL := wl_of (tb_4 (List.mem_of_getElem? (i := 164) rfl)) rfl
theorem kF_X8_40 : Cond.fieldLink RX8 40 "HalfFriendsModel" "heldRow" "[I" ∈ WL := wl_of (tb_4 (List.mem_of_getElem? (i := 165) rfl)) rfl
theorem kF_X8_43 : Cond.fieldLink RX8 43 "HalfFriendsModel" "close" "[I" ∈ WL := wl_of (tb_4 (List.mem_of_getElem? (i := 166) rfl)) rfl
theorem kF_X8_46 : Cond.fieldLink RX8 46 "HalfFriendsModel" "tape" "[I" ∈ WL := wl_of (tb_4 (List.mem_of_getElem? (i := 167) rfl)) rfl
theorem kF_X8_217 : Cond.fieldLink RX8 217 "HalfFriendsModel" "taped" "I" ∈ WL := wl_of (tb_4 (List.mem_of_getElem? (i := 168) rfl)) rfl
theorem kF_X8_235 : Cond.fieldLink RX8 235 "HalfFriendsModel" "begin" "I" ∈ WL := wl_of (tb_4 (List.mem_of_getElem? (i := 169) rfl)) rfl
theorem kF_X8_229 : Cond.fieldLink RX8 229 "HalfFriendsModel" "behind" "I" ∈ WL := wl_of (tb_4 (List.mem_of_getElem? (i := 170) rfl)) rfl
theorem kF_X8_232 : Cond.fieldLink RX8 232 "HalfFriendsModel" "token" "I" ∈ WL := wl_of (tb_4 (List.mem_of_getElem? (i := 171) rfl)) rfl
theorem kF_X8_247 : Cond.fieldLink RX8 247 "HalfFriendsModel" "number" "I" ∈ WL := wl_of (tb_4 (List.mem_of_getElem? (i := 172) rfl)) rfl
theorem kF_X8_241 : Cond.fieldLink RX8 241 "HalfFriendsModel" "letter" "I" ∈ WL := wl_of (tb_4 (List.mem_of_getElem? (i := 173) rfl)) rfl
theorem kF_X8_293 : Cond.fieldLink RX8 293 "HalfFriendsModel" "deep" "I" ∈ WL := wl_of (tb_4 (List.mem_of_getElem? (i := 174) rfl)) rfl
theorem kF_X8_290 : Cond.fieldLink RX8 290 "HalfFriendsModel" "turned" "I" ∈ WL := wl_of (tb_4 (List.mem_of_getElem? (i := 175) rfl)) rfl
theorem kF_X8_257 : Cond.fieldLink RX8 257 "HalfFriendsModel" "laid" "I" ∈ WL := wl_of (tb_4 (List.mem_of_getElem? (i := 176) rfl)) rfl
theorem kF_X8_254 : Cond.fieldLink RX8 254 "HalfFriendsModel" "laidAt" "I" ∈ WL := wl_of (tb_4 (List.mem_of_getElem? (i := 177) rfl)) rfl
theorem kF_X8_284 : Cond.fieldLink RX8 284 "HalfFriendsModel" "said" "I" ∈ WL := wl_of (tb_4 (List.mem_of_getElem? (i := 178) rfl)) rfl
theorem kF_X8_49 : Cond.fieldLink RX8 49 "HalfFriendsModel" "named" "[I" ∈ WL := wl_of (tb_4 (List.mem_of_getElem? (i := 179) rfl)) rfl
theorem kF_X8_52 : Cond.fieldLink RX8 52 "HalfFriendsModel" "pile" "[I" ∈ WL := wl_of (tb_4 (List.mem_of_getElem? (i := 180) rfl)) rfl
theorem kF_X8_55 : Cond.fieldLink RX8 55 "HalfFriendsModel" "carried" "[I" ∈ WL := wl_of (tb_4 (List.mem_of_getElem? (i := 181) rfl)) rfl
theorem kF_X8_58 : Cond.fieldLink RX8 58 "HalfFriendsModel" "waits" "[I" ∈ WL := wl_of (tb_4 (List.mem_of_getElem? (i := 182) rfl)) rfl
theorem kF_X8_334 : Cond.fieldLink RX8 334 "HalfFriendsModel" "waiting" "I" ∈ WL := wl_of (tb_4 (List.mem_of_getElem? (i := 183) rfl)) rfl
theorem kF_X8_61 : Cond.fieldLink RX8 61 "HalfFriendsModel" "rowDue" "[I" ∈ WL := wl_of (tb_4 (List.mem_of_getElem? (i := 184) rfl)) rfl
theorem kY_X8_s : Cond.laysFinal RX8 "HalfFriendsModel" "s" "[I" ∈ WL := wl_of (tb_4 (List.mem_of_getElem? (i := 185) rfl)) rfl
theorem kY_X8_image : Cond.laysFinal RX8 "HalfFriendsModel" "image" "[I" ∈ WL := wl_of (tb_4 (List.mem_of_getElem? (i := 187) rfl)) rfl
theorem kY_X8_aside : Cond.laysFinal RX8 "HalfFriendsModel" "aside" "[I" ∈ WL := wl_of (tb_4 (List.mem_of_getElem? (i := 189) rfl)) rfl
theorem kY_X8_hasImage : Cond.lays RX8 "HalfFriendsModel" "hasImage" "Z" ∈ WL := wl_of (tb_4 (List.mem_of_getElem? (i := 191) rfl)) rfl
theorem kY_X8_tSort : Cond.laysFinal RX8 "HalfFriendsModel" "tSort" "[I" ∈ WL := wl_of (tb_4 (List.mem_of_getElem? (i := 193) rfl)) rfl
theorem kY_X8_tSize : Cond.laysFinal RX8 "HalfFriendsModel" "tSize" "[I" ∈ WL := wl_of (tb_4 (List.mem_of_getElem? (i := 195) rfl)) rfl
theorem kY_X8_tNumber : Cond.laysFinal RX8 "HalfFriendsModel" "tNumber" "[I" ∈ WL := wl_of (tb_4 (List.mem_of_getElem? (i := 197) rfl)) rfl
theorem kY_X8_held : Cond.laysFinal RX8 "HalfFriendsModel" "held" "[I" ∈ WL := wl_of (tb_4 (List.mem_of_getElem? (i := 199) rfl)) rfl
theorem kY_X8_heldNumber : Cond.laysFinal RX8 "HalfFriendsModel" "heldNumber" "[I" ∈ WL := wl_of (tb_4 (List.mem_of_getElem? (i := 201) rfl)) rfl
theorem kY_X8_heldWorth : Cond.laysFinal RX8 "HalfFriendsModel" "heldWorth" "[I" ∈ WL := wl_of (tb_4 (List.mem_of_getElem? (i := 203) rfl)) rfl
theorem kY_X8_heldSize : Cond.laysFinal RX8 "HalfFriendsModel" "heldSize" "[I" ∈ WL := wl_of (tb_4 (List.mem_of_getElem? (i := 205) rfl)) rfl
theorem kY_X8_heldRow : Cond.laysFinal RX8 "HalfFriendsModel" "heldRow" "[I" ∈ WL := wl_of (tb_4 (List.mem_of_getElem? (i := 207) rfl)) rfl
theorem kY_X8_close : Cond.laysFinal RX8 "HalfFriendsModel" "close" "[I" ∈ WL := wl_of (tb_4 (List.mem_of_getElem? (i := 209) rfl)) rfl
theorem kY_X8_tape : Cond.laysFinal RX8 "HalfFriendsModel" "tape" "[I" ∈ WL := wl_of (tb_4 (List.mem_of_getElem? (i := 211) rfl)) rfl
theorem kY_X8_taped : Cond.lays RX8 "HalfFriendsModel" "taped" "I" ∈ WL := wl_of (tb_4 (List.mem_of_getElem? (i := 213) rfl)) rfl
theorem kY_X8_begin : Cond.lays RX8 "HalfFriendsModel" "begin" "I" ∈ WL := wl_of (tb_4 (List.mem_of_getElem? (i := 215) rfl)) rfl
theorem kY_X8_behind : Cond.lays RX8 "HalfFriendsModel" "behind" "I" ∈ WL := wl_of (tb_4 (List.mem_of_getElem? (i := 217) rfl)) rfl
theorem kY_X8_token : Cond.lays RX8 "HalfFriendsModel" "token" "I" ∈ WL := wl_of (tb_4 (List.mem_of_getElem? (i := 219) rfl)) rfl
theorem kY_X8_number : Cond.lays RX8 "HalfFriendsModel" "number" "I" ∈ WL := wl_of (tb_4 (List.mem_of_getElem? (i := 221) rfl)) rfl
theorem kY_X8_letter : Cond.lays RX8 "HalfFriendsModel" "letter" "I" ∈ WL := wl_of (tb_4 (List.mem_of_getElem? (i := 223) rfl)) rfl
theorem kY_X8_deep : Cond.lays RX8 "HalfFriendsModel" "deep" "I" ∈ WL := wl_of (tb_4 (List.mem_of_getElem? (i := 225) rfl)) rfl
theorem kY_X8_turned : Cond.lays RX8 "HalfFriendsModel" "turned" "I" ∈ WL := wl_of (tb_4 (List.mem_of_getElem? (i := 227) rfl)) rfl
theorem kY_X8_laid : Cond.lays RX8 "HalfFriendsModel" "laid" "I" ∈ WL := wl_of (tb_4 (List.mem_of_getElem? (i := 229) rfl)) rfl
theorem kY_X8_laidAt : Cond.lays RX8 "HalfFriendsModel" "laidAt" "I" ∈ WL := wl_of (tb_4 (List.mem_of_getElem? (i := 231) rfl)) rfl
theorem kY_X8_said : Cond.lays RX8 "HalfFriendsModel" "said" "I" ∈ WL := wl_of (tb_4 (List.mem_of_getElem? (i := 233) rfl)) rfl
theorem kY_X8_named : Cond.laysFinal RX8 "HalfFriendsModel" "named" "[I" ∈ WL := wl_of (tb_4 (List.mem_of_getElem? (i := 235) rfl)) rfl
theorem kY_X8_pile : Cond.laysFinal RX8 "HalfFriendsModel" "pile" "[I" ∈ WL := wl_of (tb_4 (List.mem_of_getElem? (i := 237) rfl)) rfl
theorem kY_X8_carried : Cond.laysFinal RX8 "HalfFriendsModel" "carried" "[I" ∈ WL := wl_of (tb_4 (List.mem_of_getElem? (i := 239) rfl)) rfl
theorem kY_X8_waits : Cond.laysFinal RX8 "HalfFriendsModel" "waits" "[I" ∈ WL := wl_of (tb_5 (List.mem_of_getElem? (i := 1) rfl)) rfl
theorem kY_X8_waiting : Cond.lays RX8 "HalfFriendsModel" "waiting" "I" ∈ WL := wl_of (tb_5 (List.mem_of_getElem? (i := 3) rfl)) rfl
theorem kY_X8_rowDue : Cond.laysFinal RX8 "HalfFriendsModel" "rowDue" "[I" ∈ WL := wl_of (tb_5 (List.mem_of_getElem? (i := 5) rfl)) rfl
theorem kM_L_17 : Cond.methodLink RL 17 yX8_person ∈ WL := wl_of (tb_5 (List.mem_of_getElem? (i := 8) rfl)) rfl
theorem kN_X8_person : Cond.instanceMethod yX8_person ∈ WL := wl_of (tb_5 (List.mem_of_getElem? (i := 9) rfl)) rfl
theorem kV_X8_person : Cond.selects RX8 yX8_person yX8_person ∈ WL := wl_of (tb_5 (List.mem_of_getElem? (i := 10) rfl)) rfl
theorem kC_X8_person : Cond.code yX8_person cX8_person 4 (some .int) ∈ WL := wl_of (tb_5 (List.mem_of_getElem? (i := 11) rfl)) rfl
theorem kL_X8_74 : Cond.constantLong RX8 74 (5) ∈ WL := wl_of (tb_5 (List.mem_of_getElem? (i := 12) rfl)) rfl
theorem kM_X8_65 : Cond.methodLink RX8 65 yX8_isIn ∈ WL := wl_of (tb_5 (List.mem_of_getElem? (i := 13) rfl)) rfl
theorem kS_X8_isIn : Cond.static yX8_isIn ∈ WL := wl_of (tb_5 (List.mem_of_getElem? (i := 14) rfl)) rfl
theorem kC_X8_isIn : Cond.code yX8_isIn cX8_isIn 6 (some .boolean) ∈ WL := wl_of (tb_5 (List.mem_of_getElem? (i := 15) rfl)) rfl
theorem kL_X8_76 : Cond.constantLong RX8 76 (99) ∈ WL := wl_of (tb_5 (List.mem_of_getElem? (i := 16) rfl)) rfl
theorem kK_X8_78 : Cond.constant RX8 78 (-1000000001) ∈ WL := wl_of (tb_5 (List.mem_of_getElem? (i := 17) rfl)) rfl
theorem kK_X8_79 : Cond.constant RX8 79 (-1000000003) ∈ WL := wl_of (tb_5 (List.mem_of_getElem? (i := 18) rfl)) rfl
theorem kM_X8_80 : Cond.methodLink RX8 80 yX8_comes ∈ WL := wl_of (tb_5 (List.mem_of_getElem? (i := 19) rfl)) rfl
theorem kN_X8_comes : Cond.instanceMethod yX8_comes ∈ WL := wl_of (tb_5 (List.mem_of_getElem? (i := 21) rfl)) rfl
theorem kC_X8_comes : Cond.code yX8_comes cX8_comes 5 none ∈ WL := wl_of (tb_5 (List.mem_of_getElem? (i := 22) rfl)) rfl
theorem kM_X8_70 : Cond.methodLink RX8 70 yX8_sets ∈ WL := wl_of (tb_5 (List.mem_of_getElem? (i := 23) rfl)) rfl
theorem kN_X8_sets : Cond.instanceMethod yX8_sets ∈ WL := wl_of (tb_5 (List.mem_of_getElem? (i := 25) rfl)) rfl
theorem kC_X8_sets : Cond.code yX8_sets cX8_sets 4 none ∈ WL := wl_of (tb_5 (List.mem_of_getElem? (i := 26) rfl)) rfl
theorem kM_L_22 : Cond.methodLink RL 22 yX8_told ∈ WL := wl_of (tb_5 (List.mem_of_getElem? (i := 27) rfl)) rfl
theorem kN_X8_told : Cond.instanceMethod yX8_told ∈ WL := wl_of (tb_5 (List.mem_of_getElem? (i := 28) rfl)) rfl
theorem kV_X8_told : Cond.selects RX8 yX8_told yX8_told ∈ WL := wl_of (tb_5 (List.mem_of_getElem? (i := 29) rfl)) rfl
theorem kC_X8_told : Cond.code yX8_told cX8_told 3 (some .int) ∈ WL := wl_of (tb_5 (List.mem_of_getElem? (i := 30) rfl)) rfl
theorem kM_X8_114 : Cond.methodLink RX8 114 yX8_isOne ∈ WL := wl_of (tb_5 (List.mem_of_getElem? (i := 31) rfl)) rfl
theorem kN_X8_isOne : Cond.instanceMethod yX8_isOne ∈ WL := wl_of (tb_5 (List.mem_of_getElem? (i := 33) rfl)) rfl
theorem kC_X8_isOne : Cond.code yX8_isOne cX8_isOne 2 (some .boolean) ∈ WL := wl_of (tb_5 (List.mem_of_getElem? (i := 34) rfl)) rfl
theorem kM_X8_83 : Cond.methodLink RX8 83 yX8_of ∈ WL := wl_of (tb_5 (List.mem_of_getElem? (i := 35) rfl)) rfl
theorem kN_X8_of : Cond.instanceMethod yX8_of ∈ WL := wl_of (tb_5 (List.mem_of_getElem? (i := 37) rfl)) rfl
theorem kC_X8_of : Cond.code yX8_of cX8_of 3 (some .int) ∈ WL := wl_of (tb_5 (List.mem_of_getElem? (i := 38) rfl)) rfl
theorem kM_X8_101 : Cond.methodLink RX8 101 yX8_offOf ∈ WL := wl_of (tb_5 (List.mem_of_getElem? (i := 39) rfl)) rfl
theorem kN_X8_offOf : Cond.instanceMethod yX8_offOf ∈ WL := wl_of (tb_5 (List.mem_of_getElem? (i := 41) rfl)) rfl
theorem kC_X8_offOf : Cond.code yX8_offOf cX8_offOf 2 (some .int) ∈ WL := wl_of (tb_5 (List.mem_of_getElem? (i := 42) rfl)) rfl
theorem kM_X8_94 : Cond.methodLink RX8 94 yX8_forNow ∈ WL := wl_of (tb_5 (List.mem_of_getElem? (i := 43) rfl)) rfl
theorem kN_X8_forNow : Cond.instanceMethod yX8_forNow ∈ WL := wl_of (tb_5 (List.mem_of_getElem? (i := 45) rfl)) rfl
theorem kC_X8_forNow : Cond.code yX8_forNow cX8_forNow 3 (some .int) ∈ WL := wl_of (tb_5 (List.mem_of_getElem? (i := 46) rfl)) rfl
theorem kM_X8_98 : Cond.methodLink RX8 98 yX8_offBy ∈ WL := wl_of (tb_5 (List.mem_of_getElem? (i := 47) rfl)) rfl
theorem kN_X8_offBy : Cond.instanceMethod yX8_offBy ∈ WL := wl_of (tb_5 (List.mem_of_getElem? (i := 49) rfl)) rfl
theorem kC_X8_offBy : Cond.code yX8_offBy cX8_offBy 4 (some .int) ∈ WL := wl_of (tb_5 (List.mem_of_getElem? (i := 50) rfl)) rfl
theorem kM_X8_87 : Cond.methodLink RX8 87 yX8_manyIn ∈ WL := wl_of (tb_5 (List.mem_of_getElem? (i := 51) rfl)) rfl
theorem kS_X8_manyIn : Cond.static yX8_manyIn ∈ WL := wl_of (tb_5 (List.mem_of_getElem? (i := 52) rfl)) rfl
theorem kC_X8_manyIn : Cond.code yX8_manyIn cX8_manyIn 3 (some .int) ∈ WL := wl_of (tb_5 (List.mem_of_getElem? (i := 53) rfl)) rfl
theorem kM_X8_91 : Cond.methodLink RX8 91 yX8_off ∈ WL := wl_of (tb_5 (List.mem_of_getElem? (i := 54) rfl)) rfl
theorem kS_X8_off : Cond.static yX8_off ∈ WL := wl_of (tb_5 (List.mem_of_getElem? (i := 55) rfl)) rfl
theorem kC_X8_off : Cond.code yX8_off cX8_off 2 (some .int) ∈ WL := wl_of (tb_5 (List.mem_of_getElem? (i := 56) rfl)) rfl
theorem kM_X8_118 : Cond.methodLink RX8 118 yX8_dues ∈ WL := wl_of (tb_5 (List.mem_of_getElem? (i := 57) rfl)) rfl
theorem kN_X8_dues : Cond.instanceMethod yX8_dues ∈ WL := wl_of (tb_5 (List.mem_of_getElem? (i := 59) rfl)) rfl
theorem kC_X8_dues : Cond.code yX8_dues cX8_dues 4 (some .int) ∈ WL := wl_of (tb_5 (List.mem_of_getElem? (i := 60) rfl)) rfl
theorem kM_X8_104 : Cond.methodLink RX8 104 yX8_counts ∈ WL := wl_of (tb_5 (List.mem_of_getElem? (i := 61) rfl)) rfl
theorem kN_X8_counts : Cond.instanceMethod yX8_counts ∈ WL := wl_of (tb_5 (List.mem_of_getElem? (i := 63) rfl)) rfl
theorem kC_X8_counts : Cond.code yX8_counts cX8_counts 4 (some .int) ∈ WL := wl_of (tb_5 (List.mem_of_getElem? (i := 64) rfl)) rfl
theorem kM_X8_299 : Cond.methodLink RX8 299 yX8_textAt ∈ WL := wl_of (tb_5 (List.mem_of_getElem? (i := 65) rfl)) rfl
theorem kN_X8_textAt : Cond.instanceMethod yX8_textAt ∈ WL := wl_of (tb_5 (List.mem_of_getElem? (i := 67) rfl)) rfl
theorem kC_X8_textAt : Cond.code yX8_textAt cX8_textAt 2 (some .int) ∈ WL := wl_of (tb_5 (List.mem_of_getElem? (i := 68) rfl)) rfl
theorem kM_X8_107 : Cond.methodLink RX8 107 yX8_worked ∈ WL := wl_of (tb_5 (List.mem_of_getElem? (i := 69) rfl)) rfl
theorem kN_X8_worked : Cond.instanceMethod yX8_worked ∈ WL := wl_of (tb_5 (List.mem_of_getElem? (i := 71) rfl)) rfl
theorem kC_X8_worked : Cond.code yX8_worked cX8_worked 6 (some .int) ∈ WL := wl_of (tb_5 (List.mem_of_getElem? (i := 72) rfl)) rfl
theorem kM_X8_311 : Cond.methodLink RX8 311 yX8_joined ∈ WL := wl_of (tb_5 (List.mem_of_getElem? (i := 73) rfl)) rfl
theorem kS_X8_joined : Cond.static yX8_joined ∈ WL := wl_of (tb_5 (List.mem_of_getElem? (i := 74) rfl)) rfl
theorem kC_X8_joined : Cond.code yX8_joined cX8_joined 3 (some .int) ∈ WL := wl_of (tb_5 (List.mem_of_getElem? (i := 75) rfl)) rfl
theorem kM_X8_110 : Cond.methodLink RX8 110 yX8_within ∈ WL := wl_of (tb_5 (List.mem_of_getElem? (i := 76) rfl)) rfl
theorem kS_X8_within : Cond.static yX8_within ∈ WL := wl_of (tb_5 (List.mem_of_getElem? (i := 77) rfl)) rfl
theorem kC_X8_within : Cond.code yX8_within cX8_within 3 (some .int) ∈ WL := wl_of (tb_5 (List.mem_of_getElem? (i := 78) rfl)) rfl
theorem kM_X8_121 : Cond.methodLink RX8 121 yX8_asks ∈ WL := wl_of (tb_5 (List.mem_of_getElem? (i := 79) rfl)) rfl
theorem kN_X8_asks : Cond.instanceMethod yX8_asks ∈ WL := wl_of (tb_5 (List.mem_of_getElem? (i := 81) rfl)) rfl
theorem kC_X8_asks : Cond.code yX8_asks cX8_asks 3 (some .int) ∈ WL := wl_of (tb_5 (List.mem_of_getElem? (i := 82) rfl)) rfl
theorem kM_X8_124 : Cond.methodLink RX8 124 yX8_worth ∈ WL := wl_of (tb_5 (List.mem_of_getElem? (i := 83) rfl)) rfl
theorem kN_X8_worth : Cond.instanceMethod yX8_worth ∈ WL := wl_of (tb_5 (List.mem_of_getElem? (i := 85) rfl)) rfl
theorem kC_X8_worth : Cond.code yX8_worth cX8_worth 3 (some .int) ∈ WL := wl_of (tb_5 (List.mem_of_getElem? (i := 86) rfl)) rfl
theorem kM_L_26 : Cond.methodLink RL 26 yX8_as ∈ WL := wl_of (tb_5 (List.mem_of_getElem? (i := 87) rfl)) rfl
theorem kN_X8_as : Cond.instanceMethod yX8_as ∈ WL := wl_of (tb_5 (List.mem_of_getElem? (i := 88) rfl)) rfl
theorem kV_X8_as : Cond.selects RX8 yX8_as yX8_as ∈ WL := wl_of (tb_5 (List.mem_of_getElem? (i := 89) rfl)) rfl
theorem kC_X8_as : Cond.code yX8_as cX8_as 3 (some .int) ∈ WL := wl_of (tb_5 (List.mem_of_getElem? (i := 90) rfl)) rfl
theorem kM_X8_127 : Cond.methodLink RX8 127 yX8_isOf ∈ WL := wl_of (tb_5 (List.mem_of_getElem? (i := 91) rfl)) rfl
theorem kS_X8_isOf : Cond.static yX8_isOf ∈ WL := wl_of (tb_5 (List.mem_of_getElem? (i := 92) rfl)) rfl
theorem kC_X8_isOf : Cond.code yX8_isOf cX8_isOf 2 (some .boolean) ∈ WL := wl_of (tb_5 (List.mem_of_getElem? (i := 93) rfl)) rfl
theorem kK_X8_131 : Cond.constant RX8 131 (-1000000012) ∈ WL := wl_of (tb_5 (List.mem_of_getElem? (i := 94) rfl)) rfl
theorem kM_L_30 : Cond.methodLink RL 30 yX8_turns ∈ WL := wl_of (tb_5 (List.mem_of_getElem? (i := 95) rfl)) rfl
theorem kN_X8_turns : Cond.instanceMethod yX8_turns ∈ WL := wl_of (tb_5 (List.mem_of_getElem? (i := 96) rfl)) rfl
theorem kV_X8_turns : Cond.selects RX8 yX8_turns yX8_turns ∈ WL := wl_of (tb_5 (List.mem_of_getElem? (i := 97) rfl)) rfl
theorem kC_X8_turns : Cond.code yX8_turns cX8_turns 3 (some .int) ∈ WL := wl_of (tb_5 (List.mem_of_getElem? (i := 98) rfl)) rfl
theorem kM_X8_132 : Cond.methodLink RX8 132 yX8_becomes ∈ WL := wl_of (tb_5 (List.mem_of_getElem? (i := 99) rfl)) rfl
theorem kN_X8_becomes : Cond.instanceMethod yX8_becomes ∈ WL := wl_of (tb_5 (List.mem_of_getElem? (i := 101) rfl)) rfl
theorem kC_X8_becomes : Cond.code yX8_becomes cX8_becomes 4 (some .int) ∈ WL := wl_of (tb_5 (List.mem_of_getElem? (i := 102) rfl)) rfl
theorem kM_L_34 : Cond.methodLink RL 34 yX8_set ∈ WL := wl_of (tb_5 (List.mem_of_getElem? (i := 103) rfl)) rfl
theorem kN_X8_set : Cond.instanceMethod yX8_set ∈ WL := wl_of (tb_5 (List.mem_of_getElem? (i := 104) rfl)) rfl
theorem kV_X8_set : Cond.selects RX8 yX8_set yX8_set ∈ WL := wl_of (tb_5 (List.mem_of_getElem? (i := 105) rfl)) rfl
theorem kC_X8_set : Cond.code yX8_set cX8_set 4 (some .int) ∈ WL := wl_of (tb_5 (List.mem_of_getElem? (i := 106) rfl)) rfl
theorem kL_X8_135 : Cond.constantLong RX8 135 (3) ∈ WL := wl_of (tb_5 (List.mem_of_getElem? (i := 107) rfl)) rfl
theorem kL_X8_137 : Cond.constantLong RX8 137 (-9999) ∈ WL := wl_of (tb_5 (List.mem_of_getElem? (i := 108) rfl)) rfl
theorem kL_X8_139 : Cond.constantLong RX8 139 (9999) ∈ WL := wl_of (tb_5 (List.mem_of_getElem? (i := 109) rfl)) rfl
theorem kM_L_38 : Cond.methodLink RL 38 yX8_friends ∈ WL := wl_of (tb_5 (List.mem_of_getElem? (i := 110) rfl)) rfl
theorem kN_X8_friends : Cond.instanceMethod yX8_friends ∈ WL := wl_of (tb_5 (List.mem_of_getElem? (i := 111) rfl)) rfl
theorem kV_X8_friends : Cond.selects RX8 yX8_friends yX8_friends ∈ WL := wl_of (tb_5 (List.mem_of_getElem? (i := 112) rfl)) rfl
theorem kC_X8_friends : Cond.code yX8_friends cX8_friends 5 (some .int) ∈ WL := wl_of (tb_5 (List.mem_of_getElem? (i := 113) rfl)) rfl
theorem kM_X8_141 : Cond.methodLink RX8 141 yX8_areFriends ∈ WL := wl_of (tb_5 (List.mem_of_getElem? (i := 114) rfl)) rfl
theorem kN_X8_areFriends : Cond.instanceMethod yX8_areFriends ∈ WL := wl_of (tb_5 (List.mem_of_getElem? (i := 116) rfl)) rfl
theorem kC_X8_areFriends : Cond.code yX8_areFriends cX8_areFriends 3 (some .int) ∈ WL := wl_of (tb_5 (List.mem_of_getElem? (i := 117) rfl)) rfl
theorem kM_X8_144 : Cond.methodLink RX8 144 yX8_joins ∈ WL := wl_of (tb_5 (List.mem_of_getElem? (i := 118) rfl)) rfl
theorem kN_X8_joins : Cond.instanceMethod yX8_joins ∈ WL := wl_of (tb_5 (List.mem_of_getElem? (i := 120) rfl)) rfl
theorem kC_X8_joins : Cond.code yX8_joins cX8_joins 4 none ∈ WL := wl_of (tb_5 (List.mem_of_getElem? (i := 121) rfl)) rfl
theorem kM_L_42 : Cond.methodLink RL 42 yX8_rule ∈ WL := wl_of (tb_5 (List.mem_of_getElem? (i := 122) rfl)) rfl
theorem kN_X8_rule : Cond.instanceMethod yX8_rule ∈ WL := wl_of (tb_5 (List.mem_of_getElem? (i := 123) rfl)) rfl
theorem kV_X8_rule : Cond.selects RX8 yX8_rule yX8_rule ∈ WL := wl_of (tb_5 (List.mem_of_getElem? (i := 124) rfl)) rfl
theorem kC_X8_rule : Cond.code yX8_rule cX8_rule 3 (some .int) ∈ WL := wl_of (tb_5 (List.mem_of_getElem? (i := 125) rfl)) rfl
theorem kL_X8_147 : Cond.constantLong RX8 147 (2) ∈ WL := wl_of (tb_5 (List.mem_of_getElem? (i := 126) rfl)) rfl
theorem kL_X8_149 : Cond.constantLong RX8 149 (9) ∈ WL := wl_of (tb_5 (List.mem_of_getElem? (i := 127) rfl)) rfl
theorem kL_X8_151 : Cond.constantLong RX8 151 (100) ∈ WL := wl_of (tb_5 (List.mem_of_getElem? (i := 128) rfl)) rfl
theorem kM_L_47 : Cond.methodLink RL 47 yX8_deal ∈ WL := wl_of (tb_5 (List.mem_of_getElem? (i := 129) rfl)) rfl
theorem kN_X8_deal : Cond.instanceMethod yX8_deal ∈ WL := wl_of (tb_5 (List.mem_of_getElem? (i := 130) rfl)) rfl
theorem kV_X8_deal : Cond.selects RX8 yX8_deal yX8_deal ∈ WL := wl_of (tb_5 (List.mem_of_getElem? (i := 131) rfl)) rfl
theorem kC_X8_deal : Cond.code yX8_deal cX8_deal 5 (some .int) ∈ WL := wl_of (tb_5 (List.mem_of_getElem? (i := 132) rfl)) rfl
theorem kL_X8_153 : Cond.constantLong RX8 153 (10) ∈ WL := wl_of (tb_5 (List.mem_of_getElem? (i := 133) rfl)) rfl
theorem kM_X8_155 : Cond.methodLink RX8 155 yX8_drawn ∈ WL := wl_of (tb_5 (List.mem_of_getElem? (i := 134) rfl)) rfl
theorem kN_X8_drawn : Cond.instanceMethod yX8_drawn ∈ WL := wl_of (tb_5 (List.mem_of_getElem? (i := 136) rfl)) rfl
theorem kC_X8_drawn : Cond.code yX8_drawn cX8_drawn 1 (some .int) ∈ WL := wl_of (tb_5 (List.mem_of_getElem? (i := 137) rfl)) rfl
theorem kK_X8_69 : Cond.constant RX8 69 (1103515245) ∈ WL := wl_of (tb_5 (List.mem_of_getElem? (i := 138) rfl)) rfl
theorem kM_L_51 : Cond.methodLink RL 51 yX8_seed ∈ WL := wl_of (tb_5 (List.mem_of_getElem? (i := 139) rfl)) rfl
theorem kN_X8_seed : Cond.instanceMethod yX8_seed ∈ WL := wl_of (tb_5 (List.mem_of_getElem? (i := 140) rfl)) rfl
theorem kV_X8_seed : Cond.selects RX8 yX8_seed yX8_seed ∈ WL := wl_of (tb_5 (List.mem_of_getElem? (i := 141) rfl)) rfl
theorem kC_X8_seed : Cond.code yX8_seed cX8_seed 2 (some .int) ∈ WL := wl_of (tb_5 (List.mem_of_getElem? (i := 142) rfl)) rfl
theorem kM_L_55 : Cond.methodLink RL 55 yX8_town ∈ WL := wl_of (tb_5 (List.mem_of_getElem? (i := 143) rfl)) rfl
theorem kN_X8_town : Cond.instanceMethod yX8_town ∈ WL := wl_of (tb_5 (List.mem_of_getElem? (i := 144) rfl)) rfl
theorem kV_X8_town : Cond.selects RX8 yX8_town yX8_town ∈ WL := wl_of (tb_5 (List.mem_of_getElem? (i := 145) rfl)) rfl
theorem kC_X8_town : Cond.code yX8_town cX8_town 2 (some .int) ∈ WL := wl_of (tb_5 (List.mem_of_getElem? (i := 146) rfl)) rfl
theorem kM_X8_158 : Cond.methodLink RX8 158 yX8_allOff ∈ WL := wl_of (tb_5 (List.mem_of_getElem? (i := 147) rfl)) rfl
theorem kN_X8_allOff : Cond.instanceMethod yX8_allOff ∈ WL := wl_of (tb_5 (List.mem_of_getElem? (i := 149) rfl)) rfl
theorem kC_X8_allOff : Cond.code yX8_allOff cX8_allOff 3 (some .int) ∈ WL := wl_of (tb_5 (List.mem_of_getElem? (i := 150) rfl)) rfl
theorem kM_X8_161 : Cond.methodLink RX8 161 yX8_disorder ∈ WL := wl_of (tb_5 (List.mem_of_getElem? (i := 151) rfl)) rfl
theorem kN_X8_disorder : Cond.instanceMethod yX8_disorder ∈ WL := wl_of (tb_5 (List.mem_of_getElem? (i := 153) rfl)) rfl
theorem kC_X8_disorder : Cond.code yX8_disorder cX8_disorder 4 (some .int) ∈ WL := wl_of (tb_5 (List.mem_of_getElem? (i := 154) rfl)) rfl
theorem kM_X8_164 : Cond.methodLink RX8 164 yX8_oddOnes ∈ WL := wl_of (tb_5 (List.mem_of_getElem? (i := 155) rfl)) rfl
theorem kN_X8_oddOnes : Cond.instanceMethod yX8_oddOnes ∈ WL := wl_of (tb_5 (List.mem_of_getElem? (i := 157) rfl)) rfl
theorem kC_X8_oddOnes : Cond.code yX8_oddOnes cX8_oddOnes 3 (some .int) ∈ WL := wl_of (tb_5 (List.mem_of_getElem? (i := 158) rfl)) rfl
theorem kM_L_60 : Cond.methodLink RL 60 yX8_ways ∈ WL := wl_of (tb_5 (List.mem_of_getElem? (i := 159) rfl)) rfl
theorem kN_X8_ways : Cond.instanceMethod yX8_ways ∈ WL := wl_of (tb_5 (List.mem_of_getElem? (i := 160) rfl)) rfl
theorem kV_X8_ways : Cond.selects RX8 yX8_ways yX8_ways ∈ WL := wl_of (tb_5 (List.mem_of_getElem? (i := 161) rfl)) rfl
theorem kC_X8_ways : Cond.code yX8_ways cX8_ways 3 (some .int) ∈ WL := wl_of (tb_5 (List.mem_of_getElem? (i := 162) rfl)) rfl
theorem kM_X8_170 : Cond.methodLink RX8 170 yX8_isWay ∈ WL := wl_of (tb_5 (List.mem_of_getElem? (i := 163) rfl)) rfl
theorem kN_X8_isWay : Cond.instanceMethod yX8_isWay ∈ WL := wl_of (tb_5 (List.mem_of_getElem? (i := 165) rfl)) rfl
theorem kC_X8_isWay : Cond.code yX8_isWay cX8_isWay 2 (some .boolean) ∈ WL := wl_of (tb_5 (List.mem_of_getElem? (i := 166) rfl)) rfl
theorem kM_X8_167 : Cond.methodLink RX8 167 yX8_fixedOnes ∈ WL := wl_of (tb_5 (List.mem_of_getElem? (i := 167) rfl)) rfl
theorem kN_X8_fixedOnes : Cond.instanceMethod yX8_fixedOnes ∈ WL := wl_of (tb_5 (List.mem_of_getElem? (i := 169) rfl)) rfl
theorem kC_X8_fixedOnes : Cond.code yX8_fixedOnes cX8_fixedOnes 3 (some .int) ∈ WL := wl_of (tb_5 (List.mem_of_getElem? (i := 170) rfl)) rfl
theorem kM_L_64 : Cond.methodLink RL 64 yX8_minds ∈ WL := wl_of (tb_5 (List.mem_of_getElem? (i := 171) rfl)) rfl
theorem kN_X8_minds : Cond.instanceMethod yX8_minds ∈ WL := wl_of (tb_5 (List.mem_of_getElem? (i := 172) rfl)) rfl
theorem kV_X8_minds : Cond.selects RX8 yX8_minds yX8_minds ∈ WL := wl_of (tb_5 (List.mem_of_getElem? (i := 173) rfl)) rfl
theorem kC_X8_minds : Cond.code yX8_minds cX8_minds 5 (some .int) ∈ WL := wl_of (tb_5 (List.mem_of_getElem? (i := 174) rfl)) rfl
theorem kM_X8_176 : Cond.methodLink RX8 176 yX8_cost ∈ WL := wl_of (tb_5 (List.mem_of_getElem? (i := 175) rfl)) rfl
theorem kN_X8_cost : Cond.instanceMethod yX8_cost ∈ WL := wl_of (tb_5 (List.mem_of_getElem? (i := 177) rfl)) rfl
theorem kC_X8_cost : Cond.code yX8_cost cX8_cost 3 (some .int) ∈ WL := wl_of (tb_5 (List.mem_of_getElem? (i := 178) rfl)) rfl
theorem kM_X8_173 : Cond.methodLink RX8 173 yX8_price ∈ WL := wl_of (tb_5 (List.mem_of_getElem? (i := 179) rfl)) rfl
theorem kN_X8_price : Cond.instanceMethod yX8_price ∈ WL := wl_of (tb_5 (List.mem_of_getElem? (i := 181) rfl)) rfl
theorem kC_X8_price : Cond.code yX8_price cX8_price 4 (some .int) ∈ WL := wl_of (tb_5 (List.mem_of_getElem? (i := 182) rfl)) rfl
theorem kM_X8_179 : Cond.methodLink RX8 179 yX8_orNone ∈ WL := wl_of (tb_5 (List.mem_of_getElem? (i := 183) rfl)) rfl
theorem kS_X8_orNone : Cond.static yX8_orNone ∈ WL := wl_of (tb_5 (List.mem_of_getElem? (i := 184) rfl)) rfl
theorem kC_X8_orNone : Cond.code yX8_orNone cX8_orNone 1 (some .int) ∈ WL := wl_of (tb_5 (List.mem_of_getElem? (i := 185) rfl)) rfl
theorem kK_X8_64 : Cond.constant RX8 64 (-1000000005) ∈ WL := wl_of (tb_5 (List.mem_of_getElem? (i := 186) rfl)) rfl
theorem kM_L_68 : Cond.methodLink RL 68 yX8_freedom ∈ WL := wl_of (tb_5 (List.mem_of_getElem? (i := 187) rfl)) rfl
theorem kN_X8_freedom : Cond.instanceMethod yX8_freedom ∈ WL := wl_of (tb_5 (List.mem_of_getElem? (i := 188) rfl)) rfl
theorem kV_X8_freedom : Cond.selects RX8 yX8_freedom yX8_freedom ∈ WL := wl_of (tb_5 (List.mem_of_getElem? (i := 189) rfl)) rfl
theorem kC_X8_freedom : Cond.code yX8_freedom cX8_freedom 4 (some .int) ∈ WL := wl_of (tb_5 (List.mem_of_getElem? (i := 190) rfl)) rfl
theorem kM_L_72 : Cond.methodLink RL 72 yX8_together ∈ WL := wl_of (tb_5 (List.mem_of_getElem? (i := 191) rfl)) rfl
theorem kN_X8_together : Cond.instanceMethod yX8_together ∈ WL := wl_of (tb_5 (List.mem_of_getElem? (i := 192) rfl)) rfl
theorem kV_X8_together : Cond.selects RX8 yX8_together yX8_together ∈ WL := wl_of (tb_5 (List.mem_of_getElem? (i := 193) rfl)) rfl
theorem kC_X8_together : Cond.code yX8_together cX8_together 5 (some .int) ∈ WL := wl_of (tb_5 (List.mem_of_getElem? (i := 194) rfl)) rfl
theorem kK_X8_182 : Cond.constant RX8 182 (-1000000002) ∈ WL := wl_of (tb_5 (List.mem_of_getElem? (i := 195) rfl)) rfl
theorem kM_L_76 : Cond.methodLink RL 76 yX8_best ∈ WL := wl_of (tb_5 (List.mem_of_getElem? (i := 196) rfl)) rfl
theorem kN_X8_best : Cond.instanceMethod yX8_best ∈ WL := wl_of (tb_5 (List.mem_of_getElem? (i := 197) rfl)) rfl
theorem kV_X8_best : Cond.selects RX8 yX8_best yX8_best ∈ WL := wl_of (tb_5 (List.mem_of_getElem? (i := 198) rfl)) rfl
theorem kC_X8_best : Cond.code yX8_best cX8_best 8 (some .int) ∈ WL := wl_of (tb_5 (List.mem_of_getElem? (i := 199) rfl)) rfl
theorem kM_X8_183 : Cond.methodLink RX8 183 yX8_ways ∈ WL := wl_of (tb_5 (List.mem_of_getElem? (i := 200) rfl)) rfl
theorem kM_L_80 : Cond.methodLink RL 80 yX8_years ∈ WL := wl_of (tb_5 (List.mem_of_getElem? (i := 201) rfl)) rfl
theorem kN_X8_years : Cond.instanceMethod yX8_years ∈ WL := wl_of (tb_5 (List.mem_of_getElem? (i := 202) rfl)) rfl
theorem kV_X8_years : Cond.selects RX8 yX8_years yX8_years ∈ WL := wl_of (tb_5 (List.mem_of_getElem? (i := 203) rfl)) rfl
theorem kC_X8_years : Cond.code yX8_years cX8_years 4 (some .int) ∈ WL := wl_of (tb_5 (List.mem_of_getElem? (i := 204) rfl)) rfl
theorem kM_X8_203 : Cond.methodLink RX8 203 yX8_goesOn ∈ WL := wl_of (tb_5 (List.mem_of_getElem? (i := 205) rfl)) rfl
theorem kN_X8_goesOn : Cond.instanceMethod yX8_goesOn ∈ WL := wl_of (tb_5 (List.mem_of_getElem? (i := 207) rfl)) rfl
theorem kC_X8_goesOn : Cond.code yX8_goesOn cX8_goesOn 3 none ∈ WL := wl_of (tb_5 (List.mem_of_getElem? (i := 208) rfl)) rfl
theorem kM_X8_189 : Cond.methodLink RX8 189 yX8_pays ∈ WL := wl_of (tb_5 (List.mem_of_getElem? (i := 209) rfl)) rfl
theorem kN_X8_pays : Cond.instanceMethod yX8_pays ∈ WL := wl_of (tb_5 (List.mem_of_getElem? (i := 211) rfl)) rfl
theorem kC_X8_pays : Cond.code yX8_pays cX8_pays 3 none ∈ WL := wl_of (tb_5 (List.mem_of_getElem? (i := 212) rfl)) rfl
theorem kM_X8_193 : Cond.methodLink RX8 193 yX8_lookedAt ∈ WL := wl_of (tb_5 (List.mem_of_getElem? (i := 213) rfl)) rfl
theorem kN_X8_lookedAt : Cond.instanceMethod yX8_lookedAt ∈ WL := wl_of (tb_5 (List.mem_of_getElem? (i := 215) rfl)) rfl
theorem kC_X8_lookedAt : Cond.code yX8_lookedAt cX8_lookedAt 1 (some .int) ∈ WL := wl_of (tb_5 (List.mem_of_getElem? (i := 216) rfl)) rfl
theorem kM_X8_186 : Cond.methodLink RX8 186 yX8_worst ∈ WL := wl_of (tb_5 (List.mem_of_getElem? (i := 217) rfl)) rfl
theorem kN_X8_worst : Cond.instanceMethod yX8_worst ∈ WL := wl_of (tb_5 (List.mem_of_getElem? (i := 219) rfl)) rfl
theorem kC_X8_worst : Cond.code yX8_worst cX8_worst 3 (some .int) ∈ WL := wl_of (tb_5 (List.mem_of_getElem? (i := 220) rfl)) rfl
theorem kM_X8_196 : Cond.methodLink RX8 196 yX8_around ∈ WL := wl_of (tb_5 (List.mem_of_getElem? (i := 221) rfl)) rfl
theorem kN_X8_around : Cond.instanceMethod yX8_around ∈ WL := wl_of (tb_5 (List.mem_of_getElem? (i := 223) rfl)) rfl
theorem kC_X8_around : Cond.code yX8_around cX8_around 5 (some .int) ∈ WL := wl_of (tb_5 (List.mem_of_getElem? (i := 224) rfl)) rfl
theorem kM_X8_199 : Cond.methodLink RX8 199 yX8_changes ∈ WL := wl_of (tb_5 (List.mem_of_getElem? (i := 225) rfl)) rfl
theorem kN_X8_changes : Cond.instanceMethod yX8_changes ∈ WL := wl_of (tb_5 (List.mem_of_getElem? (i := 227) rfl)) rfl
theorem kC_X8_changes : Cond.code yX8_changes cX8_changes 2 none ∈ WL := wl_of (tb_5 (List.mem_of_getElem? (i := 228) rfl)) rfl
theorem kM_L_84 : Cond.methodLink RL 84 yX8_behind ∈ WL := wl_of (tb_5 (List.mem_of_getElem? (i := 229) rfl)) rfl
theorem kN_X8_behind : Cond.instanceMethod yX8_behind ∈ WL := wl_of (tb_5 (List.mem_of_getElem? (i := 230) rfl)) rfl
theorem kV_X8_behind : Cond.selects RX8 yX8_behind yX8_behind ∈ WL := wl_of (tb_5 (List.mem_of_getElem? (i := 231) rfl)) rfl
theorem kC_X8_behind : Cond.code yX8_behind cX8_behind 4 (some .int) ∈ WL := wl_of (tb_5 (List.mem_of_getElem? (i := 232) rfl)) rfl
theorem kM_X8_206 : Cond.methodLink RX8 206 yX8_laysBy ∈ WL := wl_of (tb_5 (List.mem_of_getElem? (i := 233) rfl)) rfl
theorem kN_X8_laysBy : Cond.instanceMethod yX8_laysBy ∈ WL := wl_of (tb_5 (List.mem_of_getElem? (i := 235) rfl)) rfl
theorem kC_X8_laysBy : Cond.code yX8_laysBy cX8_laysBy 2 none ∈ WL := wl_of (tb_5 (List.mem_of_getElem? (i := 236) rfl)) rfl
theorem kM_X8_209 : Cond.methodLink RX8 209 yX8_goesOnMany ∈ WL := wl_of (tb_5 (List.mem_of_getElem? (i := 237) rfl)) rfl
theorem kN_X8_goesOnMany : Cond.instanceMethod yX8_goesOnMany ∈ WL := wl_of (tb_5 (List.mem_of_getElem? (i := 239) rfl)) rfl
theorem kC_X8_goesOnMany : Cond.code yX8_goesOnMany cX8_goesOnMany 3 none ∈ WL := wl_of (tb_6 (List.mem_of_getElem? (i := 0) rfl)) rfl
theorem kM_X8_212 : Cond.methodLink RX8 212 yX8_laysBack ∈ WL := wl_of (tb_6 (List.mem_of_getElem? (i := 1) rfl)) rfl
theorem kN_X8_laysBack : Cond.instanceMethod yX8_laysBack ∈ WL := wl_of (tb_6 (List.mem_of_getElem? (i := 3) rfl)) rfl
theorem kC_X8_laysBack : Cond.code yX8_laysBack cX8_laysBack 2 none ∈ WL := wl_of (tb_6 (List.mem_of_getElem? (i := 4) rfl)) rfl
theorem kM_L_88 : Cond.methodLink RL 88 yX8_settles ∈ WL := wl_of (tb_6 (List.mem_of_getElem? (i := 5) rfl)) rfl
theorem kN_X8_settles : Cond.instanceMethod yX8_settles ∈ WL := wl_of (tb_6 (List.mem_of_getElem? (i := 6) rfl)) rfl
theorem kV_X8_settles : Cond.selects RX8 yX8_settles yX8_settles ∈ WL := wl_of (tb_6 (List.mem_of_getElem? (i := 7) rfl)) rfl
theorem kC_X8_settles : Cond.code yX8_settles cX8_settles 3 (some .int) ∈ WL := wl_of (tb_6 (List.mem_of_getElem? (i := 8) rfl)) rfl
theorem kM_L_92 : Cond.methodLink RL 92 yX8_won ∈ WL := wl_of (tb_6 (List.mem_of_getElem? (i := 9) rfl)) rfl
theorem kN_X8_won : Cond.instanceMethod yX8_won ∈ WL := wl_of (tb_6 (List.mem_of_getElem? (i := 10) rfl)) rfl
theorem kV_X8_won : Cond.selects RX8 yX8_won yX8_won ∈ WL := wl_of (tb_6 (List.mem_of_getElem? (i := 11) rfl)) rfl
theorem kC_X8_won : Cond.code yX8_won cX8_won 7 (some .int) ∈ WL := wl_of (tb_6 (List.mem_of_getElem? (i := 12) rfl)) rfl
theorem kL_X8_215 : Cond.constantLong RX8 215 (60) ∈ WL := wl_of (tb_6 (List.mem_of_getElem? (i := 13) rfl)) rfl
theorem kM_L_100 : Cond.methodLink RL 100 yX8_fee ∈ WL := wl_of (tb_6 (List.mem_of_getElem? (i := 14) rfl)) rfl
theorem kN_X8_fee : Cond.instanceMethod yX8_fee ∈ WL := wl_of (tb_6 (List.mem_of_getElem? (i := 15) rfl)) rfl
theorem kV_X8_fee : Cond.selects RX8 yX8_fee yX8_fee ∈ WL := wl_of (tb_6 (List.mem_of_getElem? (i := 16) rfl)) rfl
theorem kC_X8_fee : Cond.code yX8_fee cX8_fee 2 (some .int) ∈ WL := wl_of (tb_6 (List.mem_of_getElem? (i := 17) rfl)) rfl
theorem kM_L_104 : Cond.methodLink RL 104 yX8_fine ∈ WL := wl_of (tb_6 (List.mem_of_getElem? (i := 18) rfl)) rfl
theorem kN_X8_fine : Cond.instanceMethod yX8_fine ∈ WL := wl_of (tb_6 (List.mem_of_getElem? (i := 19) rfl)) rfl
theorem kV_X8_fine : Cond.selects RX8 yX8_fine yX8_fine ∈ WL := wl_of (tb_6 (List.mem_of_getElem? (i := 20) rfl)) rfl
theorem kC_X8_fine : Cond.code yX8_fine cX8_fine 3 (some .int) ∈ WL := wl_of (tb_6 (List.mem_of_getElem? (i := 21) rfl)) rfl
theorem kM_L_108 : Cond.methodLink RL 108 yX8_feed ∈ WL := wl_of (tb_6 (List.mem_of_getElem? (i := 22) rfl)) rfl
theorem kN_X8_feed : Cond.instanceMethod yX8_feed ∈ WL := wl_of (tb_6 (List.mem_of_getElem? (i := 23) rfl)) rfl
theorem kV_X8_feed : Cond.selects RX8 yX8_feed yX8_feed ∈ WL := wl_of (tb_6 (List.mem_of_getElem? (i := 24) rfl)) rfl
theorem kC_X8_feed : Cond.code yX8_feed cX8_feed 6 (some .int) ∈ WL := wl_of (tb_6 (List.mem_of_getElem? (i := 25) rfl)) rfl
theorem kM_L_112 : Cond.methodLink RL 112 yX8_trim ∈ WL := wl_of (tb_6 (List.mem_of_getElem? (i := 26) rfl)) rfl
theorem kN_X8_trim : Cond.instanceMethod yX8_trim ∈ WL := wl_of (tb_6 (List.mem_of_getElem? (i := 27) rfl)) rfl
theorem kV_X8_trim : Cond.selects RX8 yX8_trim yX8_trim ∈ WL := wl_of (tb_6 (List.mem_of_getElem? (i := 28) rfl)) rfl
theorem kC_X8_trim : Cond.code yX8_trim cX8_trim 2 (some .int) ∈ WL := wl_of (tb_6 (List.mem_of_getElem? (i := 29) rfl)) rfl
theorem kM_L_116 : Cond.methodLink RL 116 yX8_text ∈ WL := wl_of (tb_6 (List.mem_of_getElem? (i := 30) rfl)) rfl
theorem kN_X8_text : Cond.instanceMethod yX8_text ∈ WL := wl_of (tb_6 (List.mem_of_getElem? (i := 31) rfl)) rfl
theorem kV_X8_text : Cond.selects RX8 yX8_text yX8_text ∈ WL := wl_of (tb_6 (List.mem_of_getElem? (i := 32) rfl)) rfl
theorem kC_X8_text : Cond.code yX8_text cX8_text 3 (some .int) ∈ WL := wl_of (tb_6 (List.mem_of_getElem? (i := 33) rfl)) rfl
theorem kM_X8_305 : Cond.methodLink RX8 305 yX8_parse ∈ WL := wl_of (tb_6 (List.mem_of_getElem? (i := 34) rfl)) rfl
theorem kN_X8_parse : Cond.instanceMethod yX8_parse ∈ WL := wl_of (tb_6 (List.mem_of_getElem? (i := 36) rfl)) rfl
theorem kC_X8_parse : Cond.code yX8_parse cX8_parse 3 (some .int) ∈ WL := wl_of (tb_6 (List.mem_of_getElem? (i := 37) rfl)) rfl
theorem kM_X8_266 : Cond.methodLink RX8 266 yX8_nextToken ∈ WL := wl_of (tb_6 (List.mem_of_getElem? (i := 38) rfl)) rfl
theorem kN_X8_nextToken : Cond.instanceMethod yX8_nextToken ∈ WL := wl_of (tb_6 (List.mem_of_getElem? (i := 40) rfl)) rfl
theorem kC_X8_nextToken : Cond.code yX8_nextToken cX8_nextToken 3 none ∈ WL := wl_of (tb_6 (List.mem_of_getElem? (i := 41) rfl)) rfl
theorem kM_X8_238 : Cond.methodLink RX8 238 yX8_isLetter ∈ WL := wl_of (tb_6 (List.mem_of_getElem? (i := 42) rfl)) rfl
theorem kN_X8_isLetter : Cond.instanceMethod yX8_isLetter ∈ WL := wl_of (tb_6 (List.mem_of_getElem? (i := 44) rfl)) rfl
theorem kC_X8_isLetter : Cond.code yX8_isLetter cX8_isLetter 2 (some .boolean) ∈ WL := wl_of (tb_6 (List.mem_of_getElem? (i := 45) rfl)) rfl
theorem kL_X8_221 : Cond.constantLong RX8 221 (97) ∈ WL := wl_of (tb_6 (List.mem_of_getElem? (i := 46) rfl)) rfl
theorem kL_X8_223 : Cond.constantLong RX8 223 (122) ∈ WL := wl_of (tb_6 (List.mem_of_getElem? (i := 47) rfl)) rfl
theorem kM_X8_244 : Cond.methodLink RX8 244 yX8_isDigit ∈ WL := wl_of (tb_6 (List.mem_of_getElem? (i := 48) rfl)) rfl
theorem kN_X8_isDigit : Cond.instanceMethod yX8_isDigit ∈ WL := wl_of (tb_6 (List.mem_of_getElem? (i := 50) rfl)) rfl
theorem kC_X8_isDigit : Cond.code yX8_isDigit cX8_isDigit 2 (some .boolean) ∈ WL := wl_of (tb_6 (List.mem_of_getElem? (i := 51) rfl)) rfl
theorem kL_X8_225 : Cond.constantLong RX8 225 (48) ∈ WL := wl_of (tb_6 (List.mem_of_getElem? (i := 52) rfl)) rfl
theorem kL_X8_227 : Cond.constantLong RX8 227 (57) ∈ WL := wl_of (tb_6 (List.mem_of_getElem? (i := 53) rfl)) rfl
theorem kM_X8_302 : Cond.methodLink RX8 302 yX8_key ∈ WL := wl_of (tb_6 (List.mem_of_getElem? (i := 54) rfl)) rfl
theorem kN_X8_key : Cond.instanceMethod yX8_key ∈ WL := wl_of (tb_6 (List.mem_of_getElem? (i := 56) rfl)) rfl
theorem kC_X8_key : Cond.code yX8_key cX8_key 1 (some .int) ∈ WL := wl_of (tb_6 (List.mem_of_getElem? (i := 57) rfl)) rfl
theorem kM_X8_250 : Cond.methodLink RX8 250 yX8_isWordAt ∈ WL := wl_of (tb_6 (List.mem_of_getElem? (i := 58) rfl)) rfl
theorem kN_X8_isWordAt : Cond.instanceMethod yX8_isWordAt ∈ WL := wl_of (tb_6 (List.mem_of_getElem? (i := 60) rfl)) rfl
theorem kC_X8_isWordAt : Cond.code yX8_isWordAt cX8_isWordAt 6 (some .boolean) ∈ WL := wl_of (tb_6 (List.mem_of_getElem? (i := 61) rfl)) rfl
theorem kM_X8_296 : Cond.methodLink RX8 296 yX8_either ∈ WL := wl_of (tb_6 (List.mem_of_getElem? (i := 62) rfl)) rfl
theorem kN_X8_either : Cond.instanceMethod yX8_either ∈ WL := wl_of (tb_6 (List.mem_of_getElem? (i := 64) rfl)) rfl
theorem kC_X8_either : Cond.code yX8_either cX8_either 2 (some .boolean) ∈ WL := wl_of (tb_6 (List.mem_of_getElem? (i := 65) rfl)) rfl
theorem kM_X8_260 : Cond.methodLink RX8 260 yX8_both ∈ WL := wl_of (tb_6 (List.mem_of_getElem? (i := 66) rfl)) rfl
theorem kN_X8_both : Cond.instanceMethod yX8_both ∈ WL := wl_of (tb_6 (List.mem_of_getElem? (i := 68) rfl)) rfl
theorem kC_X8_both : Cond.code yX8_both cX8_both 2 (some .boolean) ∈ WL := wl_of (tb_6 (List.mem_of_getElem? (i := 69) rfl)) rfl
theorem kM_X8_272 : Cond.methodLink RX8 272 yX8_test ∈ WL := wl_of (tb_6 (List.mem_of_getElem? (i := 70) rfl)) rfl
theorem kN_X8_test : Cond.instanceMethod yX8_test ∈ WL := wl_of (tb_6 (List.mem_of_getElem? (i := 72) rfl)) rfl
theorem kC_X8_test : Cond.code yX8_test cX8_test 3 (some .boolean) ∈ WL := wl_of (tb_6 (List.mem_of_getElem? (i := 73) rfl)) rfl
theorem kM_X8_275 : Cond.methodLink RX8 275 yX8_sum ∈ WL := wl_of (tb_6 (List.mem_of_getElem? (i := 74) rfl)) rfl
theorem kN_X8_sum : Cond.instanceMethod yX8_sum ∈ WL := wl_of (tb_6 (List.mem_of_getElem? (i := 76) rfl)) rfl
theorem kC_X8_sum : Cond.code yX8_sum cX8_sum 3 (some .boolean) ∈ WL := wl_of (tb_6 (List.mem_of_getElem? (i := 77) rfl)) rfl
theorem kM_X8_278 : Cond.methodLink RX8 278 yX8_term ∈ WL := wl_of (tb_6 (List.mem_of_getElem? (i := 78) rfl)) rfl
theorem kN_X8_term : Cond.instanceMethod yX8_term ∈ WL := wl_of (tb_6 (List.mem_of_getElem? (i := 80) rfl)) rfl
theorem kC_X8_term : Cond.code yX8_term cX8_term 3 (some .boolean) ∈ WL := wl_of (tb_6 (List.mem_of_getElem? (i := 81) rfl)) rfl
theorem kM_X8_281 : Cond.methodLink RX8 281 yX8_part0 ∈ WL := wl_of (tb_6 (List.mem_of_getElem? (i := 82) rfl)) rfl
theorem kN_X8_part0 : Cond.instanceMethod yX8_part0 ∈ WL := wl_of (tb_6 (List.mem_of_getElem? (i := 84) rfl)) rfl
theorem kC_X8_part0 : Cond.code yX8_part0 cX8_part0 2 (some .boolean) ∈ WL := wl_of (tb_6 (List.mem_of_getElem? (i := 85) rfl)) rfl
theorem kM_X8_269 : Cond.methodLink RX8 269 yX8_step ∈ WL := wl_of (tb_6 (List.mem_of_getElem? (i := 86) rfl)) rfl
theorem kN_X8_step : Cond.instanceMethod yX8_step ∈ WL := wl_of (tb_6 (List.mem_of_getElem? (i := 88) rfl)) rfl
theorem kC_X8_step : Cond.code yX8_step cX8_step 3 none ∈ WL := wl_of (tb_6 (List.mem_of_getElem? (i := 89) rfl)) rfl
theorem kM_X8_287 : Cond.methodLink RX8 287 yX8_isName ∈ WL := wl_of (tb_6 (List.mem_of_getElem? (i := 90) rfl)) rfl
theorem kS_X8_isName : Cond.static yX8_isName ∈ WL := wl_of (tb_6 (List.mem_of_getElem? (i := 91) rfl)) rfl
theorem kC_X8_isName : Cond.code yX8_isName cX8_isName 2 (some .boolean) ∈ WL := wl_of (tb_6 (List.mem_of_getElem? (i := 92) rfl)) rfl
theorem kM_X8_263 : Cond.methodLink RX8 263 yX8_isSign ∈ WL := wl_of (tb_6 (List.mem_of_getElem? (i := 93) rfl)) rfl
theorem kN_X8_isSign : Cond.instanceMethod yX8_isSign ∈ WL := wl_of (tb_6 (List.mem_of_getElem? (i := 95) rfl)) rfl
theorem kC_X8_isSign : Cond.code yX8_isSign cX8_isSign 2 (some .boolean) ∈ WL := wl_of (tb_6 (List.mem_of_getElem? (i := 96) rfl)) rfl
theorem kM_L_120 : Cond.methodLink RL 120 yX8_textTold ∈ WL := wl_of (tb_6 (List.mem_of_getElem? (i := 97) rfl)) rfl
theorem kN_X8_textTold : Cond.instanceMethod yX8_textTold ∈ WL := wl_of (tb_6 (List.mem_of_getElem? (i := 98) rfl)) rfl
theorem kV_X8_textTold : Cond.selects RX8 yX8_textTold yX8_textTold ∈ WL := wl_of (tb_6 (List.mem_of_getElem? (i := 99) rfl)) rfl
theorem kC_X8_textTold : Cond.code yX8_textTold cX8_textTold 3 (some .int) ∈ WL := wl_of (tb_6 (List.mem_of_getElem? (i := 100) rfl)) rfl
theorem kM_X8_308 : Cond.methodLink RX8 308 yX8_isText ∈ WL := wl_of (tb_6 (List.mem_of_getElem? (i := 101) rfl)) rfl
theorem kN_X8_isText : Cond.instanceMethod yX8_isText ∈ WL := wl_of (tb_6 (List.mem_of_getElem? (i := 103) rfl)) rfl
theorem kC_X8_isText : Cond.code yX8_isText cX8_isText 2 (some .boolean) ∈ WL := wl_of (tb_6 (List.mem_of_getElem? (i := 104) rfl)) rfl
theorem kM_L_124 : Cond.methodLink RL 124 yX8_why ∈ WL := wl_of (tb_6 (List.mem_of_getElem? (i := 105) rfl)) rfl
theorem kN_X8_why : Cond.instanceMethod yX8_why ∈ WL := wl_of (tb_6 (List.mem_of_getElem? (i := 106) rfl)) rfl
theorem kV_X8_why : Cond.selects RX8 yX8_why yX8_why ∈ WL := wl_of (tb_6 (List.mem_of_getElem? (i := 107) rfl)) rfl
theorem kC_X8_why : Cond.code yX8_why cX8_why 2 (some .int) ∈ WL := wl_of (tb_6 (List.mem_of_getElem? (i := 108) rfl)) rfl
theorem kM_L_128 : Cond.methodLink RL 128 yX8_sheet ∈ WL := wl_of (tb_6 (List.mem_of_getElem? (i := 109) rfl)) rfl
theorem kN_X8_sheet : Cond.instanceMethod yX8_sheet ∈ WL := wl_of (tb_6 (List.mem_of_getElem? (i := 110) rfl)) rfl
theorem kV_X8_sheet : Cond.selects RX8 yX8_sheet yX8_sheet ∈ WL := wl_of (tb_6 (List.mem_of_getElem? (i := 111) rfl)) rfl
theorem kC_X8_sheet : Cond.code yX8_sheet cX8_sheet 5 (some .int) ∈ WL := wl_of (tb_6 (List.mem_of_getElem? (i := 112) rfl)) rfl
theorem kM_X8_314 : Cond.methodLink RX8 314 yX8_isSheet ∈ WL := wl_of (tb_6 (List.mem_of_getElem? (i := 113) rfl)) rfl
theorem kS_X8_isSheet : Cond.static yX8_isSheet ∈ WL := wl_of (tb_6 (List.mem_of_getElem? (i := 114) rfl)) rfl
theorem kC_X8_isSheet : Cond.code yX8_isSheet cX8_isSheet 1 (some .boolean) ∈ WL := wl_of (tb_6 (List.mem_of_getElem? (i := 115) rfl)) rfl
theorem kL_X8_317 : Cond.constantLong RX8 317 (-1) ∈ WL := wl_of (tb_6 (List.mem_of_getElem? (i := 116) rfl)) rfl
theorem kK_X8_319 : Cond.constant RX8 319 (-1000000014) ∈ WL := wl_of (tb_6 (List.mem_of_getElem? (i := 117) rfl)) rfl
theorem kM_L_132 : Cond.methodLink RL 132 yX8_mark ∈ WL := wl_of (tb_6 (List.mem_of_getElem? (i := 118) rfl)) rfl
theorem kN_X8_mark : Cond.instanceMethod yX8_mark ∈ WL := wl_of (tb_6 (List.mem_of_getElem? (i := 119) rfl)) rfl
theorem kV_X8_mark : Cond.selects RX8 yX8_mark yX8_mark ∈ WL := wl_of (tb_6 (List.mem_of_getElem? (i := 120) rfl)) rfl
theorem kC_X8_mark : Cond.code yX8_mark cX8_mark 4 (some .int) ∈ WL := wl_of (tb_6 (List.mem_of_getElem? (i := 121) rfl)) rfl
theorem kK_X8_320 : Cond.constant RX8 320 (-1000000011) ∈ WL := wl_of (tb_6 (List.mem_of_getElem? (i := 122) rfl)) rfl
theorem kK_X8_321 : Cond.constant RX8 321 (-1000000013) ∈ WL := wl_of (tb_6 (List.mem_of_getElem? (i := 123) rfl)) rfl
theorem kL_X8_322 : Cond.constantLong RX8 322 (-99999) ∈ WL := wl_of (tb_6 (List.mem_of_getElem? (i := 124) rfl)) rfl
theorem kL_X8_324 : Cond.constantLong RX8 324 (99999) ∈ WL := wl_of (tb_6 (List.mem_of_getElem? (i := 125) rfl)) rfl
theorem kM_L_136 : Cond.methodLink RL 136 yX8_pour ∈ WL := wl_of (tb_6 (List.mem_of_getElem? (i := 126) rfl)) rfl
theorem kN_X8_pour : Cond.instanceMethod yX8_pour ∈ WL := wl_of (tb_6 (List.mem_of_getElem? (i := 127) rfl)) rfl
theorem kV_X8_pour : Cond.selects RX8 yX8_pour yX8_pour ∈ WL := wl_of (tb_6 (List.mem_of_getElem? (i := 128) rfl)) rfl
theorem kC_X8_pour : Cond.code yX8_pour cX8_pour 6 (some .int) ∈ WL := wl_of (tb_6 (List.mem_of_getElem? (i := 129) rfl)) rfl
theorem kM_X8_326 : Cond.methodLink RX8 326 yX8_isFor ∈ WL := wl_of (tb_6 (List.mem_of_getElem? (i := 130) rfl)) rfl
theorem kS_X8_isFor : Cond.static yX8_isFor ∈ WL := wl_of (tb_6 (List.mem_of_getElem? (i := 131) rfl)) rfl
theorem kC_X8_isFor : Cond.code yX8_isFor cX8_isFor 1 (some .int) ∈ WL := wl_of (tb_6 (List.mem_of_getElem? (i := 132) rfl)) rfl
theorem kM_L_140 : Cond.methodLink RL 140 yX8_reads ∈ WL := wl_of (tb_6 (List.mem_of_getElem? (i := 133) rfl)) rfl
theorem kN_X8_reads : Cond.instanceMethod yX8_reads ∈ WL := wl_of (tb_6 (List.mem_of_getElem? (i := 134) rfl)) rfl
theorem kV_X8_reads : Cond.selects RX8 yX8_reads yX8_reads ∈ WL := wl_of (tb_6 (List.mem_of_getElem? (i := 135) rfl)) rfl
theorem kC_X8_reads : Cond.code yX8_reads cX8_reads 4 (some .int) ∈ WL := wl_of (tb_6 (List.mem_of_getElem? (i := 136) rfl)) rfl
theorem kM_L_96 : Cond.methodLink RL 96 yX8_lied ∈ WL := wl_of (tb_6 (List.mem_of_getElem? (i := 137) rfl)) rfl
theorem kN_X8_lied : Cond.instanceMethod yX8_lied ∈ WL := wl_of (tb_6 (List.mem_of_getElem? (i := 138) rfl)) rfl
theorem kV_X8_lied : Cond.selects RX8 yX8_lied yX8_lied ∈ WL := wl_of (tb_6 (List.mem_of_getElem? (i := 139) rfl)) rfl
theorem kC_X8_lied : Cond.code yX8_lied cX8_lied 10 (some .int) ∈ WL := wl_of (tb_6 (List.mem_of_getElem? (i := 140) rfl)) rfl
theorem kM_L_145 : Cond.methodLink RL 145 yX8_copy ∈ WL := wl_of (tb_6 (List.mem_of_getElem? (i := 141) rfl)) rfl
theorem kN_X8_copy : Cond.instanceMethod yX8_copy ∈ WL := wl_of (tb_6 (List.mem_of_getElem? (i := 142) rfl)) rfl
theorem kV_X8_copy : Cond.selects RX8 yX8_copy yX8_copy ∈ WL := wl_of (tb_6 (List.mem_of_getElem? (i := 143) rfl)) rfl
theorem kC_X8_copy : Cond.code yX8_copy cX8_copy 7 (some .int) ∈ WL := wl_of (tb_6 (List.mem_of_getElem? (i := 144) rfl)) rfl
theorem kM_L_149 : Cond.methodLink RL 149 yX8_lay ∈ WL := wl_of (tb_6 (List.mem_of_getElem? (i := 145) rfl)) rfl
theorem kN_X8_lay : Cond.instanceMethod yX8_lay ∈ WL := wl_of (tb_6 (List.mem_of_getElem? (i := 146) rfl)) rfl
theorem kV_X8_lay : Cond.selects RX8 yX8_lay yX8_lay ∈ WL := wl_of (tb_6 (List.mem_of_getElem? (i := 147) rfl)) rfl
theorem kC_X8_lay : Cond.code yX8_lay cX8_lay 7 (some .int) ∈ WL := wl_of (tb_6 (List.mem_of_getElem? (i := 148) rfl)) rfl
theorem kM_X8_331 : Cond.methodLink RX8 331 yX8_isSlot ∈ WL := wl_of (tb_6 (List.mem_of_getElem? (i := 149) rfl)) rfl
theorem kS_X8_isSlot : Cond.static yX8_isSlot ∈ WL := wl_of (tb_6 (List.mem_of_getElem? (i := 150) rfl)) rfl
theorem kC_X8_isSlot : Cond.code yX8_isSlot cX8_isSlot 1 (some .boolean) ∈ WL := wl_of (tb_6 (List.mem_of_getElem? (i := 151) rfl)) rfl
theorem kL_X8_329 : Cond.constantLong RX8 329 (4) ∈ WL := wl_of (tb_6 (List.mem_of_getElem? (i := 152) rfl)) rfl
theorem kM_L_153 : Cond.methodLink RL 153 yX8_ask ∈ WL := wl_of (tb_6 (List.mem_of_getElem? (i := 153) rfl)) rfl
theorem kN_X8_ask : Cond.instanceMethod yX8_ask ∈ WL := wl_of (tb_6 (List.mem_of_getElem? (i := 154) rfl)) rfl
theorem kV_X8_ask : Cond.selects RX8 yX8_ask yX8_ask ∈ WL := wl_of (tb_6 (List.mem_of_getElem? (i := 155) rfl)) rfl
theorem kC_X8_ask : Cond.code yX8_ask cX8_ask 3 (some .int) ∈ WL := wl_of (tb_6 (List.mem_of_getElem? (i := 156) rfl)) rfl
theorem kM_L_157 : Cond.methodLink RL 157 yX8_item ∈ WL := wl_of (tb_6 (List.mem_of_getElem? (i := 157) rfl)) rfl
theorem kN_X8_item : Cond.instanceMethod yX8_item ∈ WL := wl_of (tb_6 (List.mem_of_getElem? (i := 158) rfl)) rfl
theorem kV_X8_item : Cond.selects RX8 yX8_item yX8_item ∈ WL := wl_of (tb_6 (List.mem_of_getElem? (i := 159) rfl)) rfl
theorem kC_X8_item : Cond.code yX8_item cX8_item 4 (some .int) ∈ WL := wl_of (tb_6 (List.mem_of_getElem? (i := 160) rfl)) rfl
theorem kM_L_161 : Cond.methodLink RL 161 yX8_rest ∈ WL := wl_of (tb_6 (List.mem_of_getElem? (i := 161) rfl)) rfl
theorem kN_X8_rest : Cond.instanceMethod yX8_rest ∈ WL := wl_of (tb_6 (List.mem_of_getElem? (i := 162) rfl)) rfl
theorem kV_X8_rest : Cond.selects RX8 yX8_rest yX8_rest ∈ WL := wl_of (tb_6 (List.mem_of_getElem? (i := 163) rfl)) rfl
theorem kC_X8_rest : Cond.code yX8_rest cX8_rest 3 (some .int) ∈ WL := wl_of (tb_6 (List.mem_of_getElem? (i := 164) rfl)) rfl
theorem kM_L_165 : Cond.methodLink RL 165 yX8_tell ∈ WL := wl_of (tb_6 (List.mem_of_getElem? (i := 165) rfl)) rfl
theorem kN_X8_tell : Cond.instanceMethod yX8_tell ∈ WL := wl_of (tb_6 (List.mem_of_getElem? (i := 166) rfl)) rfl
theorem kV_X8_tell : Cond.selects RX8 yX8_tell yX8_tell ∈ WL := wl_of (tb_6 (List.mem_of_getElem? (i := 167) rfl)) rfl
theorem kC_X8_tell : Cond.code yX8_tell cX8_tell 2 (some .int) ∈ WL := wl_of (tb_6 (List.mem_of_getElem? (i := 168) rfl)) rfl
theorem kM_L_169 : Cond.methodLink RL 169 yX8_check ∈ WL := wl_of (tb_6 (List.mem_of_getElem? (i := 169) rfl)) rfl
theorem kN_X8_check : Cond.instanceMethod yX8_check ∈ WL := wl_of (tb_6 (List.mem_of_getElem? (i := 170) rfl)) rfl
theorem kV_X8_check : Cond.selects RX8 yX8_check yX8_check ∈ WL := wl_of (tb_6 (List.mem_of_getElem? (i := 171) rfl)) rfl
theorem kC_X8_check : Cond.code yX8_check cX8_check 5 (some .int) ∈ WL := wl_of (tb_6 (List.mem_of_getElem? (i := 172) rfl)) rfl
theorem kL_X8_337 : Cond.constantLong RX8 337 (30) ∈ WL := wl_of (tb_6 (List.mem_of_getElem? (i := 173) rfl)) rfl
theorem kM_X8_343 : Cond.methodLink RX8 343 yX8_setAside ∈ WL := wl_of (tb_6 (List.mem_of_getElem? (i := 174) rfl)) rfl
theorem kN_X8_setAside : Cond.instanceMethod yX8_setAside ∈ WL := wl_of (tb_6 (List.mem_of_getElem? (i := 176) rfl)) rfl
theorem kC_X8_setAside : Cond.code yX8_setAside cX8_setAside 4 none ∈ WL := wl_of (tb_6 (List.mem_of_getElem? (i := 177) rfl)) rfl
theorem kM_L_173 : Cond.methodLink RL 173 yX8_keep ∈ WL := wl_of (tb_6 (List.mem_of_getElem? (i := 178) rfl)) rfl
theorem kN_X8_keep : Cond.instanceMethod yX8_keep ∈ WL := wl_of (tb_6 (List.mem_of_getElem? (i := 179) rfl)) rfl
theorem kV_X8_keep : Cond.selects RX8 yX8_keep yX8_keep ∈ WL := wl_of (tb_6 (List.mem_of_getElem? (i := 180) rfl)) rfl
theorem kC_X8_keep : Cond.code yX8_keep cX8_keep 1 (some .int) ∈ WL := wl_of (tb_6 (List.mem_of_getElem? (i := 181) rfl)) rfl
theorem kM_L_177 : Cond.methodLink RL 177 yX8_back ∈ WL := wl_of (tb_6 (List.mem_of_getElem? (i := 182) rfl)) rfl
theorem kN_X8_back : Cond.instanceMethod yX8_back ∈ WL := wl_of (tb_6 (List.mem_of_getElem? (i := 183) rfl)) rfl
theorem kV_X8_back : Cond.selects RX8 yX8_back yX8_back ∈ WL := wl_of (tb_6 (List.mem_of_getElem? (i := 184) rfl)) rfl
theorem kC_X8_back : Cond.code yX8_back cX8_back 1 (some .int) ∈ WL := wl_of (tb_6 (List.mem_of_getElem? (i := 185) rfl)) rfl
theorem kM_L_181 : Cond.methodLink RL 181 yX8_count ∈ WL := wl_of (tb_6 (List.mem_of_getElem? (i := 186) rfl)) rfl
theorem kN_X8_count : Cond.instanceMethod yX8_count ∈ WL := wl_of (tb_6 (List.mem_of_getElem? (i := 187) rfl)) rfl
theorem kV_X8_count : Cond.selects RX8 yX8_count yX8_count ∈ WL := wl_of (tb_6 (List.mem_of_getElem? (i := 188) rfl)) rfl
theorem kC_X8_count : Cond.code yX8_count cX8_count 2 (some .int) ∈ WL := wl_of (tb_6 (List.mem_of_getElem? (i := 189) rfl)) rfl
theorem kF_J0_9 : Cond.fieldLink RJ0 9 "java/lang/String" "value" "[B" ∈ WL := wl_of (tb_6 (List.mem_of_getElem? (i := 190) rfl)) rfl
theorem kF_J0_15 : Cond.fieldLink RJ0 15 "java/lang/String" "coder" "B" ∈ WL := wl_of (tb_6 (List.mem_of_getElem? (i := 191) rfl)) rfl
theorem kV_X7_isNobody : Cond.selects RX7 yX7_isNobody yX7_isNobody ∈ WL := wl_of (tb_0 (List.mem_of_getElem? (i := 0) rfl)) rfl
theorem kV_X7_setMind : Cond.selects RX7 yX7_setMind yX7_setMind ∈ WL := wl_of (tb_0 (List.mem_of_getElem? (i := 1) rfl)) rfl
theorem kV_X7_setPrice : Cond.selects RX7 yX7_setPrice yX7_setPrice ∈ WL := wl_of (tb_0 (List.mem_of_getElem? (i := 2) rfl)) rfl
theorem kV_X7_setPurse : Cond.selects RX7 yX7_setPurse yX7_setPurse ∈ WL := wl_of (tb_0 (List.mem_of_getElem? (i := 3) rfl)) rfl
theorem kV_X6_payDues : Cond.selects RX6 yX6_payDues yX6_payDues ∈ WL := wl_of (tb_0 (List.mem_of_getElem? (i := 4) rfl)) rfl
theorem kV_X6_pay : Cond.selects RX6 yX6_pay yX6_pay ∈ WL := wl_of (tb_0 (List.mem_of_getElem? (i := 5) rfl)) rfl
theorem kV_X6_lookedAt : Cond.selects RX6 yX6_lookedAt yX6_lookedAt ∈ WL := wl_of (tb_0 (List.mem_of_getElem? (i := 6) rfl)) rfl
theorem kV_X6_worst : Cond.selects RX6 yX6_worst yX6_worst ∈ WL := wl_of (tb_0 (List.mem_of_getElem? (i := 7) rfl)) rfl
theorem kV_X6_persuade : Cond.selects RX6 yX6_persuade yX6_persuade ∈ WL := wl_of (tb_0 (List.mem_of_getElem? (i := 8) rfl)) rfl
theorem kV_X6_offOfAll : Cond.selects RX6 yX6_offOfAll yX6_offOfAll ∈ WL := wl_of (tb_0 (List.mem_of_getElem? (i := 9) rfl)) rfl
theorem kV_X6_haveWhim : Cond.selects RX6 yX6_haveWhim yX6_haveWhim ∈ WL := wl_of (tb_0 (List.mem_of_getElem? (i := 10) rfl)) rfl
theorem kV_X7_differences : Cond.selects RX7 yX7_differences yX7_differences ∈ WL := wl_of (tb_0 (List.mem_of_getElem? (i := 11) rfl)) rfl
theorem kV_X3_next : Cond.selects RX3 yX3_next yX3_next ∈ WL := wl_of (tb_0 (List.mem_of_getElem? (i := 12) rfl)) rfl
theorem kV_X3_sortAt : Cond.selects RX3 yX3_sortAt yX3_sortAt ∈ WL := wl_of (tb_0 (List.mem_of_getElem? (i := 13) rfl)) rfl
theorem kV_X3_keyHere : Cond.selects RX3 yX3_keyHere yX3_keyHere ∈ WL := wl_of (tb_0 (List.mem_of_getElem? (i := 14) rfl)) rfl
theorem kV_X3_isHere : Cond.selects RX3 yX3_isHere yX3_isHere ∈ WL := wl_of (tb_0 (List.mem_of_getElem? (i := 15) rfl)) rfl
theorem kV_X3_level : Cond.selects RX3 yX3_level yX3_level ∈ WL := wl_of (tb_0 (List.mem_of_getElem? (i := 16) rfl)) rfl
theorem kV_X3_side : Cond.selects RX3 yX3_side yX3_side ∈ WL := wl_of (tb_0 (List.mem_of_getElem? (i := 17) rfl)) rfl
theorem kV_X3_piece : Cond.selects RX3 yX3_piece yX3_piece ∈ WL := wl_of (tb_0 (List.mem_of_getElem? (i := 18) rfl)) rfl
theorem kV_X3_negated : Cond.selects RX3 yX3_negated yX3_negated ∈ WL := wl_of (tb_0 (List.mem_of_getElem? (i := 19) rfl)) rfl
theorem kV_X3_put : Cond.selects RX3 yX3_put yX3_put ∈ WL := wl_of (tb_0 (List.mem_of_getElem? (i := 20) rfl)) rfl
theorem kV_X3_enclosed : Cond.selects RX3 yX3_enclosed yX3_enclosed ∈ WL := wl_of (tb_0 (List.mem_of_getElem? (i := 21) rfl)) rfl
theorem kV_X3_number : Cond.selects RX3 yX3_number yX3_number ∈ WL := wl_of (tb_0 (List.mem_of_getElem? (i := 22) rfl)) rfl
theorem kV_X3_name : Cond.selects RX3 yX3_name yX3_name ∈ WL := wl_of (tb_0 (List.mem_of_getElem? (i := 23) rfl)) rfl
theorem kV_X3_joinsHere : Cond.selects RX3 yX3_joinsHere yX3_joinsHere ∈ WL := wl_of (tb_0 (List.mem_of_getElem? (i := 24) rfl)) rfl
theorem kV_X8_comes : Cond.selects RX8 yX8_comes yX8_comes ∈ WL := wl_of (tb_0 (List.mem_of_getElem? (i := 25) rfl)) rfl
theorem kV_X8_sets : Cond.selects RX8 yX8_sets yX8_sets ∈ WL := wl_of (tb_0 (List.mem_of_getElem? (i := 26) rfl)) rfl
theorem kV_X8_isOne : Cond.selects RX8 yX8_isOne yX8_isOne ∈ WL := wl_of (tb_0 (List.mem_of_getElem? (i := 27) rfl)) rfl
theorem kV_X8_of : Cond.selects RX8 yX8_of yX8_of ∈ WL := wl_of (tb_0 (List.mem_of_getElem? (i := 28) rfl)) rfl
theorem kV_X8_offOf : Cond.selects RX8 yX8_offOf yX8_offOf ∈ WL := wl_of (tb_0 (List.mem_of_getElem? (i := 29) rfl)) rfl
theorem kV_X8_forNow : Cond.selects RX8 yX8_forNow yX8_forNow ∈ WL := wl_of (tb_0 (List.mem_of_getElem? (i := 30) rfl)) rfl
theorem kV_X8_offBy : Cond.selects RX8 yX8_offBy yX8_offBy ∈ WL := wl_of (tb_0 (List.mem_of_getElem? (i := 31) rfl)) rfl
theorem kV_X8_dues : Cond.selects RX8 yX8_dues yX8_dues ∈ WL := wl_of (tb_0 (List.mem_of_getElem? (i := 32) rfl)) rfl
theorem kV_X8_counts : Cond.selects RX8 yX8_counts yX8_counts ∈ WL := wl_of (tb_0 (List.mem_of_getElem? (i := 33) rfl)) rfl
theorem kV_X8_textAt : Cond.selects RX8 yX8_textAt yX8_textAt ∈ WL := wl_of (tb_0 (List.mem_of_getElem? (i := 34) rfl)) rfl
theorem kV_X8_worked : Cond.selects RX8 yX8_worked yX8_worked ∈ WL := wl_of (tb_0 (List.mem_of_getElem? (i := 35) rfl)) rfl
theorem kV_X8_asks : Cond.selects RX8 yX8_asks yX8_asks ∈ WL := wl_of (tb_0 (List.mem_of_getElem? (i := 36) rfl)) rfl
theorem kV_X8_worth : Cond.selects RX8 yX8_worth yX8_worth ∈ WL := wl_of (tb_0 (List.mem_of_getElem? (i := 37) rfl)) rfl
theorem kV_X8_becomes : Cond.selects RX8 yX8_becomes yX8_becomes ∈ WL := wl_of (tb_0 (List.mem_of_getElem? (i := 38) rfl)) rfl
theorem kV_X8_areFriends : Cond.selects RX8 yX8_areFriends yX8_areFriends ∈ WL := wl_of (tb_0 (List.mem_of_getElem? (i := 39) rfl)) rfl
theorem kV_X8_joins : Cond.selects RX8 yX8_joins yX8_joins ∈ WL := wl_of (tb_0 (List.mem_of_getElem? (i := 40) rfl)) rfl
theorem kV_X8_drawn : Cond.selects RX8 yX8_drawn yX8_drawn ∈ WL := wl_of (tb_0 (List.mem_of_getElem? (i := 41) rfl)) rfl
theorem kV_X8_allOff : Cond.selects RX8 yX8_allOff yX8_allOff ∈ WL := wl_of (tb_0 (List.mem_of_getElem? (i := 42) rfl)) rfl
theorem kV_X8_disorder : Cond.selects RX8 yX8_disorder yX8_disorder ∈ WL := wl_of (tb_0 (List.mem_of_getElem? (i := 43) rfl)) rfl
theorem kV_X8_oddOnes : Cond.selects RX8 yX8_oddOnes yX8_oddOnes ∈ WL := wl_of (tb_0 (List.mem_of_getElem? (i := 44) rfl)) rfl
theorem kV_X8_isWay : Cond.selects RX8 yX8_isWay yX8_isWay ∈ WL := wl_of (tb_0 (List.mem_of_getElem? (i := 45) rfl)) rfl
theorem kV_X8_fixedOnes : Cond.selects RX8 yX8_fixedOnes yX8_fixedOnes ∈ WL := wl_of (tb_0 (List.mem_of_getElem? (i := 46) rfl)) rfl
theorem kV_X8_cost : Cond.selects RX8 yX8_cost yX8_cost ∈ WL := wl_of (tb_0 (List.mem_of_getElem? (i := 47) rfl)) rfl
theorem kV_X8_price : Cond.selects RX8 yX8_price yX8_price ∈ WL := wl_of (tb_0 (List.mem_of_getElem? (i := 48) rfl)) rfl
theorem kV_X8_goesOn : Cond.selects RX8 yX8_goesOn yX8_goesOn ∈ WL := wl_of (tb_0 (List.mem_of_getElem? (i := 49) rfl)) rfl
theorem kV_X8_pays : Cond.selects RX8 yX8_pays yX8_pays ∈ WL := wl_of (tb_0 (List.mem_of_getElem? (i := 50) rfl)) rfl
theorem kV_X8_lookedAt : Cond.selects RX8 yX8_lookedAt yX8_lookedAt ∈ WL := wl_of (tb_0 (List.mem_of_getElem? (i := 51) rfl)) rfl
theorem kV_X8_worst : Cond.selects RX8 yX8_worst yX8_worst ∈ WL := wl_of (tb_0 (List.mem_of_getElem? (i := 52) rfl)) rfl
theorem kV_X8_around : Cond.selects RX8 yX8_around yX8_around ∈ WL := wl_of (tb_0 (List.mem_of_getElem? (i := 53) rfl)) rfl
theorem kV_X8_changes : Cond.selects RX8 yX8_changes yX8_changes ∈ WL := wl_of (tb_0 (List.mem_of_getElem? (i := 54) rfl)) rfl
theorem kV_X8_laysBy : Cond.selects RX8 yX8_laysBy yX8_laysBy ∈ WL := wl_of (tb_0 (List.mem_of_getElem? (i := 55) rfl)) rfl
theorem kV_X8_goesOnMany : Cond.selects RX8 yX8_goesOnMany yX8_goesOnMany ∈ WL := wl_of (tb_0 (List.mem_of_getElem? (i := 56) rfl)) rfl
theorem kV_X8_laysBack : Cond.selects RX8 yX8_laysBack yX8_laysBack ∈ WL := wl_of (tb_0 (List.mem_of_getElem? (i := 57) rfl)) rfl
theorem kV_X8_parse : Cond.selects RX8 yX8_parse yX8_parse ∈ WL := wl_of (tb_0 (List.mem_of_getElem? (i := 58) rfl)) rfl
theorem kV_X8_nextToken : Cond.selects RX8 yX8_nextToken yX8_nextToken ∈ WL := wl_of (tb_0 (List.mem_of_getElem? (i := 59) rfl)) rfl
theorem kV_X8_isLetter : Cond.selects RX8 yX8_isLetter yX8_isLetter ∈ WL := wl_of (tb_0 (List.mem_of_getElem? (i := 60) rfl)) rfl
theorem kV_X8_isDigit : Cond.selects RX8 yX8_isDigit yX8_isDigit ∈ WL := wl_of (tb_0 (List.mem_of_getElem? (i := 61) rfl)) rfl
theorem kV_X8_key : Cond.selects RX8 yX8_key yX8_key ∈ WL := wl_of (tb_0 (List.mem_of_getElem? (i := 62) rfl)) rfl
theorem kV_X8_isWordAt : Cond.selects RX8 yX8_isWordAt yX8_isWordAt ∈ WL := wl_of (tb_0 (List.mem_of_getElem? (i := 63) rfl)) rfl
theorem kV_X8_either : Cond.selects RX8 yX8_either yX8_either ∈ WL := wl_of (tb_0 (List.mem_of_getElem? (i := 64) rfl)) rfl
theorem kV_X8_both : Cond.selects RX8 yX8_both yX8_both ∈ WL := wl_of (tb_0 (List.mem_of_getElem? (i := 65) rfl)) rfl
theorem kV_X8_test : Cond.selects RX8 yX8_test yX8_test ∈ WL := wl_of (tb_0 (List.mem_of_getElem? (i := 66) rfl)) rfl
theorem kV_X8_sum : Cond.selects RX8 yX8_sum yX8_sum ∈ WL := wl_of (tb_0 (List.mem_of_getElem? (i := 67) rfl)) rfl
theorem kV_X8_term : Cond.selects RX8 yX8_term yX8_term ∈ WL := wl_of (tb_0 (List.mem_of_getElem? (i := 68) rfl)) rfl
theorem kV_X8_part0 : Cond.selects RX8 yX8_part0 yX8_part0 ∈ WL := wl_of (tb_0 (List.mem_of_getElem? (i := 69) rfl)) rfl
theorem kV_X8_step : Cond.selects RX8 yX8_step yX8_step ∈ WL := wl_of (tb_0 (List.mem_of_getElem? (i := 70) rfl)) rfl
theorem kV_X8_isSign : Cond.selects RX8 yX8_isSign yX8_isSign ∈ WL := wl_of (tb_0 (List.mem_of_getElem? (i := 71) rfl)) rfl
theorem kV_X8_isText : Cond.selects RX8 yX8_isText yX8_isText ∈ WL := wl_of (tb_0 (List.mem_of_getElem? (i := 72) rfl)) rfl
theorem kV_X8_setAside : Cond.selects RX8 yX8_setAside yX8_setAside ∈ WL := wl_of (tb_0 (List.mem_of_getElem? (i := 73) rfl)) rfl
theorem inW0 : ∀ w ∈ u_ws RX0 TX0 5, w ∈ WL := (show ∀ w ∈ ([Cond.laysFinal RX0 "HalfFriends$Book" "keys" "[I", Cond.laysFinal RX0 "HalfFriends$Book" "leaves" "[I", Cond.laysFinal RX0 "HalfFriends$Book" "lengths" "[I", Cond.laysFinal RX0 "HalfFriends$Book" "steps" "[[I", Cond.laysFinal RX0 "HalfFriends$Book" "stack" "[I"] : List Cond), w ∈ WL from List.forall_mem_cons.mpr ⟨kY_X0_keys, List.forall_mem_cons.mpr ⟨kY_X0_leaves, List.forall_mem_cons.mpr ⟨kY_X0_lengths, List.forall_mem_cons.mpr ⟨kY_X0_steps, List.forall_mem_cons.mpr ⟨kY_X0_stack, (fun _ h => absurd h List.not_mem_nil)⟩⟩⟩⟩⟩)
theorem inW2 : ∀ w ∈ u_ws RX2 TX2 2, w ∈ WL := (show ∀ w ∈ ([Cond.laysFinal RX2 "HalfFriends$Order" "unruly" "[I", Cond.lays RX2 "HalfFriends$Order" "all" "I"] : List Cond), w ∈ WL from List.forall_mem_cons.mpr ⟨kY_X2_unruly, List.forall_mem_cons.mpr ⟨kY_X2_all, (fun _ h => absurd h List.not_mem_nil)⟩⟩)
theorem inW3 : ∀ w ∈ u_ws RX3 TX3 9, w ∈ WL := (show ∀ w ∈ ([Cond.laysFinal RX3 "HalfFriends$Reader" "tape" "[I", Cond.laysFinal RX3 "HalfFriends$Reader" "steps" "[I", Cond.lays RX3 "HalfFriends$Reader" "length" "I", Cond.lays RX3 "HalfFriends$Reader" "start" "I", Cond.lays RX3 "HalfFriends$Reader" "end" "I", Cond.lays RX3 "HalfFriends$Reader" "glued" "Z", Cond.lays RX3 "HalfFriends$Reader" "key" "I", Cond.lays RX3 "HalfFriends$Reader" "leaves" "I", Cond.lays RX3 "HalfFriends$Reader" "stepCount" "I"] : List Cond), w ∈ WL from List.forall_mem_cons.mpr ⟨kY_X3_tape, List.forall_mem_cons.mpr ⟨kY_X3_steps, List.forall_mem_cons.mpr ⟨kY_X3_length, List.forall_mem_cons.mpr ⟨kY_X3_start, List.forall_mem_cons.mpr ⟨kY_X3_end, List.forall_mem_cons.mpr ⟨kY_X3_glued, List.forall_mem_cons.mpr ⟨kY_X3_key, List.forall_mem_cons.mpr ⟨kY_X3_leaves, List.forall_mem_cons.mpr ⟨kY_X3_stepCount, (fun _ h => absurd h List.not_mem_nil)⟩⟩⟩⟩⟩⟩⟩⟩⟩)
theorem inW4 : ∀ w ∈ u_ws RX4 TX4 3, w ∈ WL := (show ∀ w ∈ ([Cond.laysFinal RX4 "HalfFriends$Row" "places" "[I", Cond.lays RX4 "HalfFriends$Row" "sort" "I", Cond.lays RX4 "HalfFriends$Row" "size" "I"] : List Cond), w ∈ WL from List.forall_mem_cons.mpr ⟨kY_X4_places, List.forall_mem_cons.mpr ⟨kY_X4_sort, List.forall_mem_cons.mpr ⟨kY_X4_size, (fun _ h => absurd h List.not_mem_nil)⟩⟩⟩)
theorem inW5 : ∀ w ∈ u_ws RX5 TX5 5, w ∈ WL := (show ∀ w ∈ ([Cond.laysFinal RX5 "HalfFriends$Slot" "row" "LHalfFriends$Row;", Cond.lays RX5 "HalfFriends$Slot" "thing" "I", Cond.lays RX5 "HalfFriends$Slot" "kind" "I", Cond.lays RX5 "HalfFriends$Slot" "price" "I", Cond.lays RX5 "HalfFriends$Slot" "number" "I"] : List Cond), w ∈ WL from List.forall_mem_cons.mpr ⟨kY_X5_row, List.forall_mem_cons.mpr ⟨kY_X5_thing, List.forall_mem_cons.mpr ⟨kY_X5_kind, List.forall_mem_cons.mpr ⟨kY_X5_price, List.forall_mem_cons.mpr ⟨kY_X5_number, (fun _ h => absurd h List.not_mem_nil)⟩⟩⟩⟩⟩)
theorem inW6 : ∀ w ∈ u_ws RX6 TX6 15, w ∈ WL := (show ∀ w ∈ ([Cond.laysFinal RX6 "HalfFriends$Town" "book" "LHalfFriends$Book;", Cond.laysFinal RX6 "HalfFriends$Town" "kind" "[I", Cond.laysFinal RX6 "HalfFriends$Town" "price" "[I", Cond.laysFinal RX6 "HalfFriends$Town" "purse" "[I", Cond.laysFinal RX6 "HalfFriends$Town" "circle" "[I", Cond.lays RX6 "HalfFriends$Town" "size" "I", Cond.lays RX6 "HalfFriends$Town" "minds" "I", Cond.lays RX6 "HalfFriends$Town" "slack" "I", Cond.lays RX6 "HalfFriends$Town" "mode" "I", Cond.lays RX6 "HalfFriends$Town" "whim" "I", Cond.lays RX6 "HalfFriends$Town" "chest" "I", Cond.lays RX6 "HalfFriends$Town" "changes" "I", Cond.lays RX6 "HalfFriends$Town" "year" "I", Cond.lays RX6 "HalfFriends$Town" "z" "I", Cond.lays RX6 "HalfFriends$Town" "texts" "I"] : List Cond), w ∈ WL from List.forall_mem_cons.mpr ⟨kY_X6_book, List.forall_mem_cons.mpr ⟨kY_X6_kind, List.forall_mem_cons.mpr ⟨kY_X6_price, List.forall_mem_cons.mpr ⟨kY_X6_purse, List.forall_mem_cons.mpr ⟨kY_X6_circle, List.forall_mem_cons.mpr ⟨kY_X6_size, List.forall_mem_cons.mpr ⟨kY_X6_minds, List.forall_mem_cons.mpr ⟨kY_X6_slack, List.forall_mem_cons.mpr ⟨kY_X6_mode, List.forall_mem_cons.mpr ⟨kY_X6_whim, List.forall_mem_cons.mpr ⟨kY_X6_chest, List.forall_mem_cons.mpr ⟨kY_X6_changes, List.forall_mem_cons.mpr ⟨kY_X6_year, List.forall_mem_cons.mpr ⟨kY_X6_z, List.forall_mem_cons.mpr ⟨kY_X6_texts, (fun _ h => absurd h List.not_mem_nil)⟩⟩⟩⟩⟩⟩⟩⟩⟩⟩⟩⟩⟩⟩⟩)
theorem inW7 : ∀ w ∈ u_ws RX7 TX7 11, w ∈ WL := (show ∀ w ∈ ([Cond.laysFinal RX7 "HalfFriends" "book" "LHalfFriends$Book;", Cond.laysFinal RX7 "HalfFriends" "now" "LHalfFriends$Town;", Cond.laysFinal RX7 "HalfFriends" "image" "LHalfFriends$Town;", Cond.laysFinal RX7 "HalfFriends" "thought" "LHalfFriends$Town;", Cond.laysFinal RX7 "HalfFriends" "order" "LHalfFriends$Order;", Cond.laysFinal RX7 "HalfFriends" "reader" "LHalfFriends$Reader;", Cond.laysFinal RX7 "HalfFriends" "sheets" "[LHalfFriends$Row;", Cond.laysFinal RX7 "HalfFriends" "slots" "[LHalfFriends$Slot;", Cond.laysFinal RX7 "HalfFriends" "waiting" "[I", Cond.lays RX7 "HalfFriends" "waits" "I", Cond.lays RX7 "HalfFriends" "kept" "Z"] : List Cond), w ∈ WL from List.forall_mem_cons.mpr ⟨kY_X7_book, List.forall_mem_cons.mpr ⟨kY_X7_now, List.forall_mem_cons.mpr ⟨kY_X7_image, List.forall_mem_cons.mpr ⟨kY_X7_thought, List.forall_mem_cons.mpr ⟨kY_X7_order, List.forall_mem_cons.mpr ⟨kY_X7_reader, List.forall_mem_cons.mpr ⟨kY_X7_sheets, List.forall_mem_cons.mpr ⟨kY_X7_slots, List.forall_mem_cons.mpr ⟨kY_X7_waiting, List.forall_mem_cons.mpr ⟨kY_X7_waits, List.forall_mem_cons.mpr ⟨kY_X7_kept, (fun _ h => absurd h List.not_mem_nil)⟩⟩⟩⟩⟩⟩⟩⟩⟩⟩⟩)
theorem inW8 : ∀ w ∈ u_ws RX8 TX8 31, w ∈ WL := (show ∀ w ∈ ([Cond.laysFinal RX8 "HalfFriendsModel" "s" "[I", Cond.laysFinal RX8 "HalfFriendsModel" "image" "[I", Cond.laysFinal RX8 "HalfFriendsModel" "aside" "[I", Cond.lays RX8 "HalfFriendsModel" "hasImage" "Z", Cond.laysFinal RX8 "HalfFriendsModel" "tSort" "[I", Cond.laysFinal RX8 "HalfFriendsModel" "tSize" "[I", Cond.laysFinal RX8 "HalfFriendsModel" "tNumber" "[I", Cond.laysFinal RX8 "HalfFriendsModel" "held" "[I", Cond.laysFinal RX8 "HalfFriendsModel" "heldNumber" "[I", Cond.laysFinal RX8 "HalfFriendsModel" "heldWorth" "[I", Cond.laysFinal RX8 "HalfFriendsModel" "heldSize" "[I", Cond.laysFinal RX8 "HalfFriendsModel" "heldRow" "[I", Cond.laysFinal RX8 "HalfFriendsModel" "close" "[I", Cond.laysFinal RX8 "HalfFriendsModel" "tape" "[I", Cond.lays RX8 "HalfFriendsModel" "taped" "I", Cond.lays RX8 "HalfFriendsModel" "begin" "I", Cond.lays RX8 "HalfFriendsModel" "behind" "I", Cond.lays RX8 "HalfFriendsModel" "token" "I", Cond.lays RX8 "HalfFriendsModel" "number" "I", Cond.lays RX8 "HalfFriendsModel" "letter" "I", Cond.lays RX8 "HalfFriendsModel" "deep" "I", Cond.lays RX8 "HalfFriendsModel" "turned" "I", Cond.lays RX8 "HalfFriendsModel" "laid" "I", Cond.lays RX8 "HalfFriendsModel" "laidAt" "I", Cond.lays RX8 "HalfFriendsModel" "said" "I", Cond.laysFinal RX8 "HalfFriendsModel" "named" "[I", Cond.laysFinal RX8 "HalfFriendsModel" "pile" "[I", Cond.laysFinal RX8 "HalfFriendsModel" "carried" "[I", Cond.laysFinal RX8 "HalfFriendsModel" "waits" "[I", Cond.lays RX8 "HalfFriendsModel" "waiting" "I", Cond.laysFinal RX8 "HalfFriendsModel" "rowDue" "[I"] : List Cond), w ∈ WL from List.forall_mem_cons.mpr ⟨kY_X8_s, List.forall_mem_cons.mpr ⟨kY_X8_image, List.forall_mem_cons.mpr ⟨kY_X8_aside, List.forall_mem_cons.mpr ⟨kY_X8_hasImage, List.forall_mem_cons.mpr ⟨kY_X8_tSort, List.forall_mem_cons.mpr ⟨kY_X8_tSize, List.forall_mem_cons.mpr ⟨kY_X8_tNumber, List.forall_mem_cons.mpr ⟨kY_X8_held, List.forall_mem_cons.mpr ⟨kY_X8_heldNumber, List.forall_mem_cons.mpr ⟨kY_X8_heldWorth, List.forall_mem_cons.mpr ⟨kY_X8_heldSize, List.forall_mem_cons.mpr ⟨kY_X8_heldRow, List.forall_mem_cons.mpr ⟨kY_X8_close, List.forall_mem_cons.mpr ⟨kY_X8_tape, List.forall_mem_cons.mpr ⟨kY_X8_taped, List.forall_mem_cons.mpr ⟨kY_X8_begin, List.forall_mem_cons.mpr ⟨kY_X8_behind, List.forall_mem_cons.mpr ⟨kY_X8_token, List.forall_mem_cons.mpr ⟨kY_X8_number, List.forall_mem_cons.mpr ⟨kY_X8_letter, List.forall_mem_cons.mpr ⟨kY_X8_deep, List.forall_mem_cons.mpr ⟨kY_X8_turned, List.forall_mem_cons.mpr ⟨kY_X8_laid, List.forall_mem_cons.mpr ⟨kY_X8_laidAt, List.forall_mem_cons.mpr ⟨kY_X8_said, List.forall_mem_cons.mpr ⟨kY_X8_named, List.forall_mem_cons.mpr ⟨kY_X8_pile, List.forall_mem_cons.mpr ⟨kY_X8_carried, List.forall_mem_cons.mpr ⟨kY_X8_waits, List.forall_mem_cons.mpr ⟨kY_X8_waiting, List.forall_mem_cons.mpr ⟨kY_X8_rowDue, (fun _ h => absurd h List.not_mem_nil)⟩⟩⟩⟩⟩⟩⟩⟩⟩⟩⟩⟩⟩⟩⟩⟩⟩⟩⟩⟩⟩⟩⟩⟩⟩⟩⟩⟩⟩⟩⟩)
theorem fr_X0_9 : FR RX0 9 0 0 := ⟨RX0, TX0, 5, rfl, by decide, inW0, kF_X0_9⟩
theorem fr_X0_15 : FR RX0 15 0 1 := ⟨RX0, TX0, 5, rfl, by decide, inW0, kF_X0_15⟩
theorem fr_X0_18 : FR RX0 18 0 2 := ⟨RX0, TX0, 5, rfl, by decide, inW0, kF_X0_18⟩
theorem fr_X0_23 : FR RX0 23 0 3 := ⟨RX0, TX0, 5, rfl, by decide, inW0, kF_X0_23⟩
theorem fr_X0_26 : FR RX0 26 0 4 := ⟨RX0, TX0, 5, rfl, by decide, inW0, kF_X0_26⟩
theorem fr_X0_29 : FR RX0 29 2 6 := ⟨RX3, TX3, 9, rfl, by decide, inW3, kF_X0_29⟩
theorem fw_X0_29 : FW RX0 29 2 6 .int := ⟨RX3, TX3, 9, tyX3, rfl, by decide, inW3, kF_X0_29, tyX3_ok, nmX3, rfl, by decide +kernel⟩
theorem fr_X0_35 : FR RX0 35 2 7 := ⟨RX3, TX3, 9, rfl, by decide, inW3, kF_X0_35⟩
theorem fw_X0_35 : FW RX0 35 2 7 .int := ⟨RX3, TX3, 9, tyX3, rfl, by decide, inW3, kF_X0_35, tyX3_ok, nmX3, rfl, by decide +kernel⟩
theorem fr_X0_37 : FR RX0 37 2 8 := ⟨RX3, TX3, 9, rfl, by decide, inW3, kF_X0_37⟩
theorem fw_X0_37 : FW RX0 37 2 8 .int := ⟨RX3, TX3, 9, tyX3, rfl, by decide, inW3, kF_X0_37, tyX3_ok, nmX3, rfl, by decide +kernel⟩
theorem fr_X0_40 : FR RX0 40 2 1 := ⟨RX3, TX3, 9, rfl, by decide, inW3, kF_X0_40⟩
theorem fr_X2_9 : FR RX2 9 1 0 := ⟨RX2, TX2, 2, rfl, by decide, inW2, kF_X2_9⟩
theorem fr_X2_15 : FR RX2 15 1 1 := ⟨RX2, TX2, 2, rfl, by decide, inW2, kF_X2_15⟩
theorem fw_X2_15 : FW RX2 15 1 1 .int := ⟨RX2, TX2, 2, tyX2, rfl, by decide, inW2, kF_X2_15, tyX2_ok, nmX2, rfl, by decide +kernel⟩
theorem fr_X2_25 : FR RX2 25 5 5 := ⟨RX6, TX6, 15, rfl, by decide, inW6, kF_X2_25⟩
theorem fw_X2_25 : FW RX2 25 5 5 .int := ⟨RX6, TX6, 15, tyX6, rfl, by decide, inW6, kF_X2_25, tyX6_ok, nmX6, rfl, by decide +kernel⟩
theorem fr_X2_34 : FR RX2 34 5 6 := ⟨RX6, TX6, 15, rfl, by decide, inW6, kF_X2_34⟩
theorem fw_X2_34 : FW RX2 34 5 6 .int := ⟨RX6, TX6, 15, tyX6, rfl, by decide, inW6, kF_X2_34, tyX6_ok, nmX6, rfl, by decide +kernel⟩
theorem fr_X2_57 : FR RX2 57 5 4 := ⟨RX6, TX6, 15, rfl, by decide, inW6, kF_X2_57⟩
theorem fr_X2_63 : FR RX2 63 5 7 := ⟨RX6, TX6, 15, rfl, by decide, inW6, kF_X2_63⟩
theorem fw_X2_63 : FW RX2 63 5 7 .int := ⟨RX6, TX6, 15, tyX6, rfl, by decide, inW6, kF_X2_63, tyX6_ok, nmX6, rfl, by decide +kernel⟩
theorem fr_X3_9 : FR RX3 9 2 0 := ⟨RX3, TX3, 9, rfl, by decide, inW3, kF_X3_9⟩
theorem fr_X3_15 : FR RX3 15 2 1 := ⟨RX3, TX3, 9, rfl, by decide, inW3, kF_X3_15⟩
theorem fr_X3_18 : FR RX3 18 2 2 := ⟨RX3, TX3, 9, rfl, by decide, inW3, kF_X3_18⟩
theorem fw_X3_18 : FW RX3 18 2 2 .int := ⟨RX3, TX3, 9, tyX3, rfl, by decide, inW3, kF_X3_18, tyX3_ok, nmX3, rfl, by decide +kernel⟩
theorem fr_X3_22 : FR RX3 22 2 3 := ⟨RX3, TX3, 9, rfl, by decide, inW3, kF_X3_22⟩
theorem fw_X3_22 : FW RX3 22 2 3 .int := ⟨RX3, TX3, 9, tyX3, rfl, by decide, inW3, kF_X3_22, tyX3_ok, nmX3, rfl, by decide +kernel⟩
theorem fr_X3_25 : FR RX3 25 2 4 := ⟨RX3, TX3, 9, rfl, by decide, inW3, kF_X3_25⟩
theorem fw_X3_25 : FW RX3 25 2 4 .int := ⟨RX3, TX3, 9, tyX3, rfl, by decide, inW3, kF_X3_25, tyX3_ok, nmX3, rfl, by decide +kernel⟩
theorem fr_X3_28 : FR RX3 28 2 5 := ⟨RX3, TX3, 9, rfl, by decide, inW3, kF_X3_28⟩
theorem fw_X3_28 : FW RX3 28 2 5 .boolean := ⟨RX3, TX3, 9, tyX3, rfl, by decide, inW3, kF_X3_28, tyX3_ok, nmX3, rfl, by decide +kernel⟩
theorem fr_X3_32 : FR RX3 32 2 6 := ⟨RX3, TX3, 9, rfl, by decide, inW3, kF_X3_32⟩
theorem fw_X3_32 : FW RX3 32 2 6 .int := ⟨RX3, TX3, 9, tyX3, rfl, by decide, inW3, kF_X3_32, tyX3_ok, nmX3, rfl, by decide +kernel⟩
theorem fr_X3_35 : FR RX3 35 2 7 := ⟨RX3, TX3, 9, rfl, by decide, inW3, kF_X3_35⟩
theorem fw_X3_35 : FW RX3 35 2 7 .int := ⟨RX3, TX3, 9, tyX3, rfl, by decide, inW3, kF_X3_35, tyX3_ok, nmX3, rfl, by decide +kernel⟩
theorem fr_X3_38 : FR RX3 38 2 8 := ⟨RX3, TX3, 9, rfl, by decide, inW3, kF_X3_38⟩
theorem fw_X3_38 : FW RX3 38 2 8 .int := ⟨RX3, TX3, 9, tyX3, rfl, by decide, inW3, kF_X3_38, tyX3_ok, nmX3, rfl, by decide +kernel⟩
theorem fr_X4_9 : FR RX4 9 3 0 := ⟨RX4, TX4, 3, rfl, by decide, inW4, kF_X4_9⟩
theorem fr_X4_15 : FR RX4 15 3 1 := ⟨RX4, TX4, 3, rfl, by decide, inW4, kF_X4_15⟩
theorem fw_X4_15 : FW RX4 15 3 1 .int := ⟨RX4, TX4, 3, tyX4, rfl, by decide, inW4, kF_X4_15, tyX4_ok, nmX4, rfl, by decide +kernel⟩
theorem fr_X4_19 : FR RX4 19 3 2 := ⟨RX4, TX4, 3, rfl, by decide, inW4, kF_X4_19⟩
theorem fw_X4_19 : FW RX4 19 3 2 .int := ⟨RX4, TX4, 3, tyX4, rfl, by decide, inW4, kF_X4_19, tyX4_ok, nmX4, rfl, by decide +kernel⟩
theorem fr_X5_12 : FR RX5 12 4 0 := ⟨RX5, TX5, 5, rfl, by decide, inW5, kF_X5_12⟩
theorem fr_X5_18 : FR RX5 18 4 1 := ⟨RX5, TX5, 5, rfl, by decide, inW5, kF_X5_18⟩
theorem fw_X5_18 : FW RX5 18 4 1 .int := ⟨RX5, TX5, 5, tyX5, rfl, by decide, inW5, kF_X5_18, tyX5_ok, nmX5, rfl, by decide +kernel⟩
theorem fr_X5_22 : FR RX5 22 4 2 := ⟨RX5, TX5, 5, rfl, by decide, inW5, kF_X5_22⟩
theorem fw_X5_22 : FW RX5 22 4 2 .int := ⟨RX5, TX5, 5, tyX5, rfl, by decide, inW5, kF_X5_22, tyX5_ok, nmX5, rfl, by decide +kernel⟩
theorem fr_X5_25 : FR RX5 25 4 3 := ⟨RX5, TX5, 5, rfl, by decide, inW5, kF_X5_25⟩
theorem fw_X5_25 : FW RX5 25 4 3 .int := ⟨RX5, TX5, 5, tyX5, rfl, by decide, inW5, kF_X5_25, tyX5_ok, nmX5, rfl, by decide +kernel⟩
theorem fr_X5_28 : FR RX5 28 4 4 := ⟨RX5, TX5, 5, rfl, by decide, inW5, kF_X5_28⟩
theorem fw_X5_28 : FW RX5 28 4 4 .int := ⟨RX5, TX5, 5, tyX5, rfl, by decide, inW5, kF_X5_28, tyX5_ok, nmX5, rfl, by decide +kernel⟩
theorem fr_X6_9 : FR RX6 9 5 1 := ⟨RX6, TX6, 15, rfl, by decide, inW6, kF_X6_9⟩
theorem fr_X6_15 : FR RX6 15 5 2 := ⟨RX6, TX6, 15, rfl, by decide, inW6, kF_X6_15⟩
theorem fr_X6_18 : FR RX6 18 5 3 := ⟨RX6, TX6, 15, rfl, by decide, inW6, kF_X6_18⟩
theorem fr_X6_21 : FR RX6 21 5 4 := ⟨RX6, TX6, 15, rfl, by decide, inW6, kF_X6_21⟩
theorem fr_X6_24 : FR RX6 24 5 5 := ⟨RX6, TX6, 15, rfl, by decide, inW6, kF_X6_24⟩
theorem fw_X6_24 : FW RX6 24 5 5 .int := ⟨RX6, TX6, 15, tyX6, rfl, by decide, inW6, kF_X6_24, tyX6_ok, nmX6, rfl, by decide +kernel⟩
theorem fr_X6_28 : FR RX6 28 5 6 := ⟨RX6, TX6, 15, rfl, by decide, inW6, kF_X6_28⟩
theorem fw_X6_28 : FW RX6 28 5 6 .int := ⟨RX6, TX6, 15, tyX6, rfl, by decide, inW6, kF_X6_28, tyX6_ok, nmX6, rfl, by decide +kernel⟩
theorem fr_X6_31 : FR RX6 31 5 7 := ⟨RX6, TX6, 15, rfl, by decide, inW6, kF_X6_31⟩
theorem fw_X6_31 : FW RX6 31 5 7 .int := ⟨RX6, TX6, 15, tyX6, rfl, by decide, inW6, kF_X6_31, tyX6_ok, nmX6, rfl, by decide +kernel⟩
theorem fr_X6_34 : FR RX6 34 5 8 := ⟨RX6, TX6, 15, rfl, by decide, inW6, kF_X6_34⟩
theorem fw_X6_34 : FW RX6 34 5 8 .int := ⟨RX6, TX6, 15, tyX6, rfl, by decide, inW6, kF_X6_34, tyX6_ok, nmX6, rfl, by decide +kernel⟩
theorem fr_X6_37 : FR RX6 37 5 9 := ⟨RX6, TX6, 15, rfl, by decide, inW6, kF_X6_37⟩
theorem fw_X6_37 : FW RX6 37 5 9 .int := ⟨RX6, TX6, 15, tyX6, rfl, by decide, inW6, kF_X6_37, tyX6_ok, nmX6, rfl, by decide +kernel⟩
theorem fr_X6_40 : FR RX6 40 5 10 := ⟨RX6, TX6, 15, rfl, by decide, inW6, kF_X6_40⟩
theorem fw_X6_40 : FW RX6 40 5 10 .int := ⟨RX6, TX6, 15, tyX6, rfl, by decide, inW6, kF_X6_40, tyX6_ok, nmX6, rfl, by decide +kernel⟩
theorem fr_X6_43 : FR RX6 43 5 11 := ⟨RX6, TX6, 15, rfl, by decide, inW6, kF_X6_43⟩
theorem fw_X6_43 : FW RX6 43 5 11 .int := ⟨RX6, TX6, 15, tyX6, rfl, by decide, inW6, kF_X6_43, tyX6_ok, nmX6, rfl, by decide +kernel⟩
theorem fr_X6_46 : FR RX6 46 5 12 := ⟨RX6, TX6, 15, rfl, by decide, inW6, kF_X6_46⟩
theorem fw_X6_46 : FW RX6 46 5 12 .int := ⟨RX6, TX6, 15, tyX6, rfl, by decide, inW6, kF_X6_46, tyX6_ok, nmX6, rfl, by decide +kernel⟩
theorem fr_X6_49 : FR RX6 49 5 13 := ⟨RX6, TX6, 15, rfl, by decide, inW6, kF_X6_49⟩
theorem fw_X6_49 : FW RX6 49 5 13 .int := ⟨RX6, TX6, 15, tyX6, rfl, by decide, inW6, kF_X6_49, tyX6_ok, nmX6, rfl, by decide +kernel⟩
theorem fr_X6_52 : FR RX6 52 5 14 := ⟨RX6, TX6, 15, rfl, by decide, inW6, kF_X6_52⟩
theorem fw_X6_52 : FW RX6 52 5 14 .int := ⟨RX6, TX6, 15, tyX6, rfl, by decide, inW6, kF_X6_52, tyX6_ok, nmX6, rfl, by decide +kernel⟩
theorem fr_X6_55 : FR RX6 55 5 0 := ⟨RX6, TX6, 15, rfl, by decide, inW6, kF_X6_55⟩
theorem fr_X7_10 : FR RX7 10 6 0 := ⟨RX7, TX7, 11, rfl, by decide, inW7, kF_X7_10⟩
theorem fr_X7_21 : FR RX7 21 6 1 := ⟨RX7, TX7, 11, rfl, by decide, inW7, kF_X7_21⟩
theorem fr_X7_25 : FR RX7 25 6 2 := ⟨RX7, TX7, 11, rfl, by decide, inW7, kF_X7_25⟩
theorem fr_X7_28 : FR RX7 28 6 3 := ⟨RX7, TX7, 11, rfl, by decide, inW7, kF_X7_28⟩
theorem fr_X7_34 : FR RX7 34 6 4 := ⟨RX7, TX7, 11, rfl, by decide, inW7, kF_X7_34⟩
theorem fr_X7_41 : FR RX7 41 6 5 := ⟨RX7, TX7, 11, rfl, by decide, inW7, kF_X7_41⟩
theorem fr_X7_47 : FR RX7 47 6 6 := ⟨RX7, TX7, 11, rfl, by decide, inW7, kF_X7_47⟩
theorem fr_X7_53 : FR RX7 53 6 7 := ⟨RX7, TX7, 11, rfl, by decide, inW7, kF_X7_53⟩
theorem fr_X7_57 : FR RX7 57 6 8 := ⟨RX7, TX7, 11, rfl, by decide, inW7, kF_X7_57⟩
theorem fr_X7_61 : FR RX7 61 6 9 := ⟨RX7, TX7, 11, rfl, by decide, inW7, kF_X7_61⟩
theorem fw_X7_61 : FW RX7 61 6 9 .int := ⟨RX7, TX7, 11, tyX7, rfl, by decide, inW7, kF_X7_61, tyX7_ok, nmX7, rfl, by decide +kernel⟩
theorem fr_X7_65 : FR RX7 65 6 10 := ⟨RX7, TX7, 11, rfl, by decide, inW7, kF_X7_65⟩
theorem fw_X7_65 : FW RX7 65 6 10 .boolean := ⟨RX7, TX7, 11, tyX7, rfl, by decide, inW7, kF_X7_65, tyX7_ok, nmX7, rfl, by decide +kernel⟩
theorem fr_X7_76 : FR RX7 76 5 5 := ⟨RX6, TX6, 15, rfl, by decide, inW6, kF_X7_76⟩
theorem fw_X7_76 : FW RX7 76 5 5 .int := ⟨RX6, TX6, 15, tyX6, rfl, by decide, inW6, kF_X7_76, tyX6_ok, nmX6, rfl, by decide +kernel⟩
theorem fr_X7_88 : FR RX7 88 5 1 := ⟨RX6, TX6, 15, rfl, by decide, inW6, kF_X7_88⟩
theorem fr_X7_95 : FR RX7 95 5 2 := ⟨RX6, TX6, 15, rfl, by decide, inW6, kF_X7_95⟩
theorem fr_X7_98 : FR RX7 98 5 3 := ⟨RX6, TX6, 15, rfl, by decide, inW6, kF_X7_98⟩
theorem fr_X7_101 : FR RX7 101 5 4 := ⟨RX6, TX6, 15, rfl, by decide, inW6, kF_X7_101⟩
theorem fr_X7_140 : FR RX7 140 5 7 := ⟨RX6, TX6, 15, rfl, by decide, inW6, kF_X7_140⟩
theorem fw_X7_140 : FW RX7 140 5 7 .int := ⟨RX6, TX6, 15, tyX6, rfl, by decide, inW6, kF_X7_140, tyX6_ok, nmX6, rfl, by decide +kernel⟩
theorem fr_X7_143 : FR RX7 143 5 8 := ⟨RX6, TX6, 15, rfl, by decide, inW6, kF_X7_143⟩
theorem fw_X7_143 : FW RX7 143 5 8 .int := ⟨RX6, TX6, 15, tyX6, rfl, by decide, inW6, kF_X7_143, tyX6_ok, nmX6, rfl, by decide +kernel⟩
theorem fr_X7_146 : FR RX7 146 5 9 := ⟨RX6, TX6, 15, rfl, by decide, inW6, kF_X7_146⟩
theorem fw_X7_146 : FW RX7 146 5 9 .int := ⟨RX6, TX6, 15, tyX6, rfl, by decide, inW6, kF_X7_146, tyX6_ok, nmX6, rfl, by decide +kernel⟩
theorem fr_X7_158 : FR RX7 158 5 13 := ⟨RX6, TX6, 15, rfl, by decide, inW6, kF_X7_158⟩
theorem fw_X7_158 : FW RX7 158 5 13 .int := ⟨RX6, TX6, 15, tyX6, rfl, by decide, inW6, kF_X7_158, tyX6_ok, nmX6, rfl, by decide +kernel⟩
theorem fr_X7_164 : FR RX7 164 5 10 := ⟨RX6, TX6, 15, rfl, by decide, inW6, kF_X7_164⟩
theorem fw_X7_164 : FW RX7 164 5 10 .int := ⟨RX6, TX6, 15, tyX6, rfl, by decide, inW6, kF_X7_164, tyX6_ok, nmX6, rfl, by decide +kernel⟩
theorem fr_X7_167 : FR RX7 167 5 11 := ⟨RX6, TX6, 15, rfl, by decide, inW6, kF_X7_167⟩
theorem fw_X7_167 : FW RX7 167 5 11 .int := ⟨RX6, TX6, 15, tyX6, rfl, by decide, inW6, kF_X7_167, tyX6_ok, nmX6, rfl, by decide +kernel⟩
theorem fr_X7_170 : FR RX7 170 5 6 := ⟨RX6, TX6, 15, rfl, by decide, inW6, kF_X7_170⟩
theorem fw_X7_170 : FW RX7 170 5 6 .int := ⟨RX6, TX6, 15, tyX6, rfl, by decide, inW6, kF_X7_170, tyX6_ok, nmX6, rfl, by decide +kernel⟩
theorem fr_X7_202 : FR RX7 202 5 12 := ⟨RX6, TX6, 15, rfl, by decide, inW6, kF_X7_202⟩
theorem fw_X7_202 : FW RX7 202 5 12 .int := ⟨RX6, TX6, 15, tyX6, rfl, by decide, inW6, kF_X7_202, tyX6_ok, nmX6, rfl, by decide +kernel⟩
theorem fr_X7_223 : FR RX7 223 3 2 := ⟨RX4, TX4, 3, rfl, by decide, inW4, kF_X7_223⟩
theorem fw_X7_223 : FW RX7 223 3 2 .int := ⟨RX4, TX4, 3, tyX4, rfl, by decide, inW4, kF_X7_223, tyX4_ok, nmX4, rfl, by decide +kernel⟩
theorem fr_X7_230 : FR RX7 230 3 0 := ⟨RX4, TX4, 3, rfl, by decide, inW4, kF_X7_230⟩
theorem fr_X7_236 : FR RX7 236 5 14 := ⟨RX6, TX6, 15, rfl, by decide, inW6, kF_X7_236⟩
theorem fw_X7_236 : FW RX7 236 5 14 .int := ⟨RX6, TX6, 15, tyX6, rfl, by decide, inW6, kF_X7_236, tyX6_ok, nmX6, rfl, by decide +kernel⟩
theorem fr_X7_246 : FR RX7 246 2 2 := ⟨RX3, TX3, 9, rfl, by decide, inW3, kF_X7_246⟩
theorem fw_X7_246 : FW RX7 246 2 2 .int := ⟨RX3, TX3, 9, tyX3, rfl, by decide, inW3, kF_X7_246, tyX3_ok, nmX3, rfl, by decide +kernel⟩
theorem fr_X7_255 : FR RX7 255 2 3 := ⟨RX3, TX3, 9, rfl, by decide, inW3, kF_X7_255⟩
theorem fw_X7_255 : FW RX7 255 2 3 .int := ⟨RX3, TX3, 9, tyX3, rfl, by decide, inW3, kF_X7_255, tyX3_ok, nmX3, rfl, by decide +kernel⟩
theorem fr_X7_262 : FR RX7 262 0 0 := ⟨RX0, TX0, 5, rfl, by decide, inW0, kF_X7_262⟩
theorem fr_X7_265 : FR RX7 265 0 1 := ⟨RX0, TX0, 5, rfl, by decide, inW0, kF_X7_265⟩
theorem fr_X7_277 : FR RX7 277 3 1 := ⟨RX4, TX4, 3, rfl, by decide, inW4, kF_X7_277⟩
theorem fw_X7_277 : FW RX7 277 3 1 .int := ⟨RX4, TX4, 3, tyX4, rfl, by decide, inW4, kF_X7_277, tyX4_ok, nmX4, rfl, by decide +kernel⟩
theorem fr_X7_294 : FR RX7 294 4 1 := ⟨RX5, TX5, 5, rfl, by decide, inW5, kF_X7_294⟩
theorem fw_X7_294 : FW RX7 294 4 1 .int := ⟨RX5, TX5, 5, tyX5, rfl, by decide, inW5, kF_X7_294, tyX5_ok, nmX5, rfl, by decide +kernel⟩
theorem fr_X7_297 : FR RX7 297 4 2 := ⟨RX5, TX5, 5, rfl, by decide, inW5, kF_X7_297⟩
theorem fw_X7_297 : FW RX7 297 4 2 .int := ⟨RX5, TX5, 5, tyX5, rfl, by decide, inW5, kF_X7_297, tyX5_ok, nmX5, rfl, by decide +kernel⟩
theorem fr_X7_299 : FR RX7 299 4 3 := ⟨RX5, TX5, 5, rfl, by decide, inW5, kF_X7_299⟩
theorem fw_X7_299 : FW RX7 299 4 3 .int := ⟨RX5, TX5, 5, tyX5, rfl, by decide, inW5, kF_X7_299, tyX5_ok, nmX5, rfl, by decide +kernel⟩
theorem fr_X7_301 : FR RX7 301 4 0 := ⟨RX5, TX5, 5, rfl, by decide, inW5, kF_X7_301⟩
theorem fr_X7_308 : FR RX7 308 4 4 := ⟨RX5, TX5, 5, rfl, by decide, inW5, kF_X7_308⟩
theorem fw_X7_308 : FW RX7 308 4 4 .int := ⟨RX5, TX5, 5, tyX5, rfl, by decide, inW5, kF_X7_308, tyX5_ok, nmX5, rfl, by decide +kernel⟩
theorem fr_X8_7 : FR RX8 7 7 0 := ⟨RX8, TX8, 31, rfl, by decide, inW8, kF_X8_7⟩
theorem fr_X8_13 : FR RX8 13 7 1 := ⟨RX8, TX8, 31, rfl, by decide, inW8, kF_X8_13⟩
theorem fr_X8_16 : FR RX8 16 7 2 := ⟨RX8, TX8, 31, rfl, by decide, inW8, kF_X8_16⟩
theorem fr_X8_19 : FR RX8 19 7 4 := ⟨RX8, TX8, 31, rfl, by decide, inW8, kF_X8_19⟩
theorem fr_X8_22 : FR RX8 22 7 5 := ⟨RX8, TX8, 31, rfl, by decide, inW8, kF_X8_22⟩
theorem fr_X8_25 : FR RX8 25 7 6 := ⟨RX8, TX8, 31, rfl, by decide, inW8, kF_X8_25⟩
theorem fr_X8_28 : FR RX8 28 7 7 := ⟨RX8, TX8, 31, rfl, by decide, inW8, kF_X8_28⟩
theorem fr_X8_31 : FR RX8 31 7 8 := ⟨RX8, TX8, 31, rfl, by decide, inW8, kF_X8_31⟩
theorem fr_X8_34 : FR RX8 34 7 9 := ⟨RX8, TX8, 31, rfl, by decide, inW8, kF_X8_34⟩
theorem fr_X8_37 : FR RX8 37 7 10 := ⟨RX8, TX8, 31, rfl, by decide, inW8, kF_X8_37⟩
theorem fr_X8_40 : FR RX8 40 7 11 := ⟨RX8, TX8, 31, rfl, by decide, inW8, kF_X8_40⟩
theorem fr_X8_43 : FR RX8 43 7 12 := ⟨RX8, TX8, 31, rfl, by decide, inW8, kF_X8_43⟩
theorem fr_X8_46 : FR RX8 46 7 13 := ⟨RX8, TX8, 31, rfl, by decide, inW8, kF_X8_46⟩
theorem fr_X8_49 : FR RX8 49 7 25 := ⟨RX8, TX8, 31, rfl, by decide, inW8, kF_X8_49⟩
theorem fr_X8_52 : FR RX8 52 7 26 := ⟨RX8, TX8, 31, rfl, by decide, inW8, kF_X8_52⟩
theorem fr_X8_55 : FR RX8 55 7 27 := ⟨RX8, TX8, 31, rfl, by decide, inW8, kF_X8_55⟩
theorem fr_X8_58 : FR RX8 58 7 28 := ⟨RX8, TX8, 31, rfl, by decide, inW8, kF_X8_58⟩
theorem fr_X8_61 : FR RX8 61 7 30 := ⟨RX8, TX8, 31, rfl, by decide, inW8, kF_X8_61⟩
theorem fr_X8_217 : FR RX8 217 7 14 := ⟨RX8, TX8, 31, rfl, by decide, inW8, kF_X8_217⟩
theorem fw_X8_217 : FW RX8 217 7 14 .int := ⟨RX8, TX8, 31, tyX8, rfl, by decide, inW8, kF_X8_217, tyX8_ok, nmX8, rfl, by decide +kernel⟩
theorem fr_X8_229 : FR RX8 229 7 16 := ⟨RX8, TX8, 31, rfl, by decide, inW8, kF_X8_229⟩
theorem fw_X8_229 : FW RX8 229 7 16 .int := ⟨RX8, TX8, 31, tyX8, rfl, by decide, inW8, kF_X8_229, tyX8_ok, nmX8, rfl, by decide +kernel⟩
theorem fr_X8_232 : FR RX8 232 7 17 := ⟨RX8, TX8, 31, rfl, by decide, inW8, kF_X8_232⟩
theorem fw_X8_232 : FW RX8 232 7 17 .int := ⟨RX8, TX8, 31, tyX8, rfl, by decide, inW8, kF_X8_232, tyX8_ok, nmX8, rfl, by decide +kernel⟩
theorem fr_X8_235 : FR RX8 235 7 15 := ⟨RX8, TX8, 31, rfl, by decide, inW8, kF_X8_235⟩
theorem fw_X8_235 : FW RX8 235 7 15 .int := ⟨RX8, TX8, 31, tyX8, rfl, by decide, inW8, kF_X8_235, tyX8_ok, nmX8, rfl, by decide +kernel⟩
theorem fr_X8_241 : FR RX8 241 7 19 := ⟨RX8, TX8, 31, rfl, by decide, inW8, kF_X8_241⟩
theorem fw_X8_241 : FW RX8 241 7 19 .int := ⟨RX8, TX8, 31, tyX8, rfl, by decide, inW8, kF_X8_241, tyX8_ok, nmX8, rfl, by decide +kernel⟩
theorem fr_X8_247 : FR RX8 247 7 18 := ⟨RX8, TX8, 31, rfl, by decide, inW8, kF_X8_247⟩
theorem fw_X8_247 : FW RX8 247 7 18 .int := ⟨RX8, TX8, 31, tyX8, rfl, by decide, inW8, kF_X8_247, tyX8_ok, nmX8, rfl, by decide +kernel⟩
theorem fr_X8_254 : FR RX8 254 7 23 := ⟨RX8, TX8, 31, rfl, by decide, inW8, kF_X8_254⟩
theorem fw_X8_254 : FW RX8 254 7 23 .int := ⟨RX8, TX8, 31, tyX8, rfl, by decide, inW8, kF_X8_254, tyX8_ok, nmX8, rfl, by decide +kernel⟩
theorem fr_X8_257 : FR RX8 257 7 22 := ⟨RX8, TX8, 31, rfl, by decide, inW8, kF_X8_257⟩
theorem fw_X8_257 : FW RX8 257 7 22 .int := ⟨RX8, TX8, 31, tyX8, rfl, by decide, inW8, kF_X8_257, tyX8_ok, nmX8, rfl, by decide +kernel⟩
theorem fr_X8_284 : FR RX8 284 7 24 := ⟨RX8, TX8, 31, rfl, by decide, inW8, kF_X8_284⟩
theorem fw_X8_284 : FW RX8 284 7 24 .int := ⟨RX8, TX8, 31, tyX8, rfl, by decide, inW8, kF_X8_284, tyX8_ok, nmX8, rfl, by decide +kernel⟩
theorem fr_X8_290 : FR RX8 290 7 21 := ⟨RX8, TX8, 31, rfl, by decide, inW8, kF_X8_290⟩
theorem fw_X8_290 : FW RX8 290 7 21 .int := ⟨RX8, TX8, 31, tyX8, rfl, by decide, inW8, kF_X8_290, tyX8_ok, nmX8, rfl, by decide +kernel⟩
theorem fr_X8_293 : FR RX8 293 7 20 := ⟨RX8, TX8, 31, rfl, by decide, inW8, kF_X8_293⟩
theorem fw_X8_293 : FW RX8 293 7 20 .int := ⟨RX8, TX8, 31, tyX8, rfl, by decide, inW8, kF_X8_293, tyX8_ok, nmX8, rfl, by decide +kernel⟩
theorem fr_X8_334 : FR RX8 334 7 29 := ⟨RX8, TX8, 31, rfl, by decide, inW8, kF_X8_334⟩
theorem fw_X8_334 : FW RX8 334 7 29 .int := ⟨RX8, TX8, 31, tyX8, rfl, by decide, inW8, kF_X8_334, tyX8_ok, nmX8, rfl, by decide +kernel⟩
theorem fr_X8_339 : FR RX8 339 7 3 := ⟨RX8, TX8, 31, rfl, by decide, inW8, kF_X8_339⟩
theorem fw_X8_339 : FW RX8 339 7 3 .boolean := ⟨RX8, TX8, 31, tyX8, rfl, by decide, inW8, kF_X8_339, tyX8_ok, nmX8, rfl, by decide +kernel⟩
theorem mi_X7_person : MI yX7_person cX7_person 4 (some .int) 3 := ⟨kC_X7_person, kI_X7, by decide +kernel, by decide +kernel, by decide +kernel⟩
theorem mv_X7_person : MV yX7_person := ⟨kN_X7_person, kV_X7_person⟩
theorem mi_X7_outside : MI yX7_outside cX7_outside 3 (some .boolean) 3 := ⟨kC_X7_outside, kI_X7, by decide +kernel, by decide +kernel, by decide +kernel⟩
theorem ms_X7_outside : MS yX7_outside := kS_X7_outside
theorem mi_X6_join : MI yX6_join cX6_join 4 none 3 := ⟨kC_X6_join, kI_X6, by decide +kernel, by decide +kernel, by decide +kernel⟩
theorem mv_X6_join : MV yX6_join := ⟨kN_X6_join, kV_X6_join⟩
theorem mi_X7_told : MI yX7_told cX7_told 3 (some .int) 2 := ⟨kC_X7_told, kI_X7, by decide +kernel, by decide +kernel, by decide +kernel⟩
theorem mv_X7_told : MV yX7_told := ⟨kN_X7_told, kV_X7_told⟩
theorem mi_X7_isNobody : MI yX7_isNobody cX7_isNobody 2 (some .boolean) 1 := ⟨kC_X7_isNobody, kI_X7, by decide +kernel, by decide +kernel, by decide +kernel⟩
theorem mv_X7_isNobody : MV yX7_isNobody := ⟨kN_X7_isNobody, kV_X7_isNobody⟩
theorem mi_X6_mindOf : MI yX6_mindOf cX6_mindOf 2 (some .int) 1 := ⟨kC_X6_mindOf, kI_X6, by decide +kernel, by decide +kernel, by decide +kernel⟩
theorem mv_X6_mindOf : MV yX6_mindOf := ⟨kN_X6_mindOf, kV_X6_mindOf⟩
theorem mi_X6_offOf : MI yX6_offOf cX6_offOf 2 (some .int) 1 := ⟨kC_X6_offOf, kI_X6, by decide +kernel, by decide +kernel, by decide +kernel⟩
theorem mv_X6_offOf : MV yX6_offOf := ⟨kN_X6_offOf, kV_X6_offOf⟩
theorem mi_X6_off : MI yX6_off cX6_off 3 (some .int) 2 := ⟨kC_X6_off, kI_X6, by decide +kernel, by decide +kernel, by decide +kernel⟩
theorem mv_X6_off : MV yX6_off := ⟨kN_X6_off, kV_X6_off⟩
theorem mi_X6_offAmong : MI yX6_offAmong cX6_offAmong 2 (some .int) 2 := ⟨kC_X6_offAmong, kI_X6, by decide +kernel, by decide +kernel, by decide +kernel⟩
theorem ms_X6_offAmong : MS yX6_offAmong := kS_X6_offAmong
theorem mi_J6_bitCount_0f7a4 : MI yJ6_bitCount_0f7a4 cJ6_bitCount_0f7a4 1 (some .int) 1 := ⟨kC_J6_bitCount_0f7a4, kI_J6, by decide +kernel, by decide +kernel, by decide +kernel⟩
theorem ms_J6_bitCount_0f7a4 : MS yJ6_bitCount_0f7a4 := kS_J6_bitCount_0f7a4
theorem mi_X6_owes : MI yX6_owes cX6_owes 5 (some .int) 1 := ⟨kC_X6_owes, kI_X6, by decide +kernel, by decide +kernel, by decide +kernel⟩
theorem mv_X6_owes : MV yX6_owes := ⟨kN_X6_owes, kV_X6_owes⟩
theorem mi_X0_counts : MI yX0_counts cX0_counts 4 (some .int) 2 := ⟨kC_X0_counts, kI_X0, by decide +kernel, by decide +kernel, by decide +kernel⟩
theorem mv_X0_counts : MV yX0_counts := ⟨kN_X0_counts, kV_X0_counts⟩
theorem mi_X0_gives : MI yX0_gives cX0_gives 9 (some .int) 4 := ⟨kC_X0_gives, kI_X0, by decide +kernel, by decide +kernel, by decide +kernel⟩
theorem mv_X0_gives : MV yX0_gives := ⟨kN_X0_gives, kV_X0_gives⟩
theorem mi_X0_leaf : MI yX0_leaf cX0_leaf 4 (some .int) 4 := ⟨kC_X0_leaf, kI_X0, by decide +kernel, by decide +kernel, by decide +kernel⟩
theorem ms_X0_leaf : MS yX0_leaf := kS_X0_leaf
theorem mi_X0_joined : MI yX0_joined cX0_joined 3 (some .int) 3 := ⟨kC_X0_joined, kI_X0, by decide +kernel, by decide +kernel, by decide +kernel⟩
theorem ms_X0_joined : MS yX0_joined := kS_X0_joined
theorem mi_X1_owes : MI yX1_owes cX1_owes 2 (some .int) 2 := ⟨kC_X1_owes, kI_X1, by decide +kernel, by decide +kernel, by decide +kernel⟩
theorem ms_X1_owes : MS yX1_owes := kS_X1_owes
theorem mi_X6_asks : MI yX6_asks cX6_asks 2 (some .int) 1 := ⟨kC_X6_asks, kI_X6, by decide +kernel, by decide +kernel, by decide +kernel⟩
theorem mv_X6_asks : MV yX6_asks := ⟨kN_X6_asks, kV_X6_asks⟩
theorem mi_X1_asks : MI yX1_asks cX1_asks 2 (some .int) 2 := ⟨kC_X1_asks, kI_X1, by decide +kernel, by decide +kernel, by decide +kernel⟩
theorem ms_X1_asks : MS yX1_asks := kS_X1_asks
theorem mi_X1_worth : MI yX1_worth cX1_worth 2 (some .int) 2 := ⟨kC_X1_worth, kI_X1, by decide +kernel, by decide +kernel, by decide +kernel⟩
theorem ms_X1_worth : MS yX1_worth := kS_X1_worth
theorem mi_X7_as : MI yX7_as cX7_as 3 (some .int) 2 := ⟨kC_X7_as, kI_X7, by decide +kernel, by decide +kernel, by decide +kernel⟩
theorem mv_X7_as : MV yX7_as := ⟨kN_X7_as, kV_X7_as⟩
theorem mi_X1_isOf : MI yX1_isOf cX1_isOf 4 (some .boolean) 2 := ⟨kC_X1_isOf, kI_X1, by decide +kernel, by decide +kernel, by decide +kernel⟩
theorem ms_X1_isOf : MS yX1_isOf := kS_X1_isOf
theorem mi_X7_turns : MI yX7_turns cX7_turns 4 (some .int) 2 := ⟨kC_X7_turns, kI_X7, by decide +kernel, by decide +kernel, by decide +kernel⟩
theorem mv_X7_turns : MV yX7_turns := ⟨kN_X7_turns, kV_X7_turns⟩
theorem mi_X7_set : MI yX7_set cX7_set 4 (some .int) 3 := ⟨kC_X7_set, kI_X7, by decide +kernel, by decide +kernel, by decide +kernel⟩
theorem mv_X7_set : MV yX7_set := ⟨kN_X7_set, kV_X7_set⟩
theorem mi_X7_setMind : MI yX7_setMind cX7_setMind 4 (some .int) 2 := ⟨kC_X7_setMind, kI_X7, by decide +kernel, by decide +kernel, by decide +kernel⟩
theorem mv_X7_setMind : MV yX7_setMind := ⟨kN_X7_setMind, kV_X7_setMind⟩
theorem mi_X6_flip : MI yX6_flip cX6_flip 2 none 1 := ⟨kC_X6_flip, kI_X6, by decide +kernel, by decide +kernel, by decide +kernel⟩
theorem mv_X6_flip : MV yX6_flip := ⟨kN_X6_flip, kV_X6_flip⟩
theorem mi_X7_setPrice : MI yX7_setPrice cX7_setPrice 4 (some .int) 2 := ⟨kC_X7_setPrice, kI_X7, by decide +kernel, by decide +kernel, by decide +kernel⟩
theorem mv_X7_setPrice : MV yX7_setPrice := ⟨kN_X7_setPrice, kV_X7_setPrice⟩
theorem mi_X7_setPurse : MI yX7_setPurse cX7_setPurse 4 (some .int) 2 := ⟨kC_X7_setPurse, kI_X7, by decide +kernel, by decide +kernel, by decide +kernel⟩
theorem mv_X7_setPurse : MV yX7_setPurse := ⟨kN_X7_setPurse, kV_X7_setPurse⟩
theorem mi_X7_friends : MI yX7_friends cX7_friends 5 (some .int) 3 := ⟨kC_X7_friends, kI_X7, by decide +kernel, by decide +kernel, by decide +kernel⟩
theorem mv_X7_friends : MV yX7_friends := ⟨kN_X7_friends, kV_X7_friends⟩
theorem mi_X6_areFriends : MI yX6_areFriends cX6_areFriends 3 (some .boolean) 2 := ⟨kC_X6_areFriends, kI_X6, by decide +kernel, by decide +kernel, by decide +kernel⟩
theorem mv_X6_areFriends : MV yX6_areFriends := ⟨kN_X6_areFriends, kV_X6_areFriends⟩
theorem mi_X7_rule : MI yX7_rule cX7_rule 4 (some .int) 2 := ⟨kC_X7_rule, kI_X7, by decide +kernel, by decide +kernel, by decide +kernel⟩
theorem mv_X7_rule : MV yX7_rule := ⟨kN_X7_rule, kV_X7_rule⟩
theorem mi_X7_deal : MI yX7_deal cX7_deal 7 (some .int) 1 := ⟨kC_X7_deal, kI_X7, by decide +kernel, by decide +kernel, by decide +kernel⟩
theorem mv_X7_deal : MV yX7_deal := ⟨kN_X7_deal, kV_X7_deal⟩
theorem mi_X6_draw : MI yX6_draw cX6_draw 1 (some .int) 0 := ⟨kC_X6_draw, kI_X6, by decide +kernel, by decide +kernel, by decide +kernel⟩
theorem mv_X6_draw : MV yX6_draw := ⟨kN_X6_draw, kV_X6_draw⟩
theorem mi_X7_seed : MI yX7_seed cX7_seed 3 (some .int) 1 := ⟨kC_X7_seed, kI_X7, by decide +kernel, by decide +kernel, by decide +kernel⟩
theorem mv_X7_seed : MV yX7_seed := ⟨kN_X7_seed, kV_X7_seed⟩
theorem mi_X7_town : MI yX7_town cX7_town 2 (some .int) 1 := ⟨kC_X7_town, kI_X7, by decide +kernel, by decide +kernel, by decide +kernel⟩
theorem mv_X7_town : MV yX7_town := ⟨kN_X7_town, kV_X7_town⟩
theorem mi_X6_offTogether : MI yX6_offTogether cX6_offTogether 3 (some .int) 0 := ⟨kC_X6_offTogether, kI_X6, by decide +kernel, by decide +kernel, by decide +kernel⟩
theorem mv_X6_offTogether : MV yX6_offTogether := ⟨kN_X6_offTogether, kV_X6_offTogether⟩
theorem mi_X6_unruly : MI yX6_unruly cX6_unruly 4 (some .int) 1 := ⟨kC_X6_unruly, kI_X6, by decide +kernel, by decide +kernel, by decide +kernel⟩
theorem mv_X6_unruly : MV yX6_unruly := ⟨kN_X6_unruly, kV_X6_unruly⟩
theorem mi_X6_oddOnes : MI yX6_oddOnes cX6_oddOnes 3 (some .int) 0 := ⟨kC_X6_oddOnes, kI_X6, by decide +kernel, by decide +kernel, by decide +kernel⟩
theorem mv_X6_oddOnes : MV yX6_oddOnes := ⟨kN_X6_oddOnes, kV_X6_oddOnes⟩
theorem mi_X7_ways : MI yX7_ways cX7_ways 1 (some .int) 0 := ⟨kC_X7_ways, kI_X7, by decide +kernel, by decide +kernel, by decide +kernel⟩
theorem mv_X7_ways : MV yX7_ways := ⟨kN_X7_ways, kV_X7_ways⟩
theorem mi_X2_scan : MI yX2_scan cX2_scan 5 none 1 := ⟨kC_X2_scan, kI_X2, by decide +kernel, by decide +kernel, by decide +kernel⟩
theorem mv_X2_scan : MV yX2_scan := ⟨kN_X2_scan, kV_X2_scan⟩
theorem mi_X6_fixedOnes : MI yX6_fixedOnes cX6_fixedOnes 3 (some .int) 0 := ⟨kC_X6_fixedOnes, kI_X6, by decide +kernel, by decide +kernel, by decide +kernel⟩
theorem mv_X6_fixedOnes : MV yX6_fixedOnes := ⟨kN_X6_fixedOnes, kV_X6_fixedOnes⟩
theorem mi_X2_howMany : MI yX2_howMany cX2_howMany 3 (some .int) 0 := ⟨kC_X2_howMany, kI_X2, by decide +kernel, by decide +kernel, by decide +kernel⟩
theorem mv_X2_howMany : MV yX2_howMany := ⟨kN_X2_howMany, kV_X2_howMany⟩
theorem mi_X7_minds : MI yX7_minds cX7_minds 2 (some .int) 1 := ⟨kC_X7_minds, kI_X7, by decide +kernel, by decide +kernel, by decide +kernel⟩
theorem mv_X7_minds : MV yX7_minds := ⟨kN_X7_minds, kV_X7_minds⟩
theorem mi_X2_chosen : MI yX2_chosen cX2_chosen 7 (some .int) 2 := ⟨kC_X2_chosen, kI_X2, by decide +kernel, by decide +kernel, by decide +kernel⟩
theorem mv_X2_chosen : MV yX2_chosen := ⟨kN_X2_chosen, kV_X2_chosen⟩
theorem mi_X2_cost : MI yX2_cost cX2_cost 3 (some .int) 3 := ⟨kC_X2_cost, kI_X2, by decide +kernel, by decide +kernel, by decide +kernel⟩
theorem ms_X2_cost : MS yX2_cost := kS_X2_cost
theorem mi_X2_priceOf : MI yX2_priceOf cX2_priceOf 4 (some .int) 2 := ⟨kC_X2_priceOf, kI_X2, by decide +kernel, by decide +kernel, by decide +kernel⟩
theorem ms_X2_priceOf : MS yX2_priceOf := kS_X2_priceOf
theorem mi_X7_freedom : MI yX7_freedom cX7_freedom 1 (some .int) 0 := ⟨kC_X7_freedom, kI_X7, by decide +kernel, by decide +kernel, by decide +kernel⟩
theorem mv_X7_freedom : MV yX7_freedom := ⟨kN_X7_freedom, kV_X7_freedom⟩
theorem mi_X2_free : MI yX2_free cX2_free 4 (some .int) 0 := ⟨kC_X2_free, kI_X2, by decide +kernel, by decide +kernel, by decide +kernel⟩
theorem mv_X2_free : MV yX2_free := ⟨kN_X2_free, kV_X2_free⟩
theorem mi_X7_together : MI yX7_together cX7_together 1 (some .int) 0 := ⟨kC_X7_together, kI_X7, by decide +kernel, by decide +kernel, by decide +kernel⟩
theorem mv_X7_together : MV yX7_together := ⟨kN_X7_together, kV_X7_together⟩
theorem mi_X2_nearest : MI yX2_nearest cX2_nearest 5 (some .int) 1 := ⟨kC_X2_nearest, kI_X2, by decide +kernel, by decide +kernel, by decide +kernel⟩
theorem mv_X2_nearest : MV yX2_nearest := ⟨kN_X2_nearest, kV_X2_nearest⟩
theorem mi_X7_best : MI yX7_best cX7_best 9 (some .int) 2 := ⟨kC_X7_best, kI_X7, by decide +kernel, by decide +kernel, by decide +kernel⟩
theorem mv_X7_best : MV yX7_best := ⟨kN_X7_best, kV_X7_best⟩
theorem mi_X2_howManyTurned : MI yX2_howManyTurned cX2_howManyTurned 9 (some .int) 3 := ⟨kC_X2_howManyTurned, kI_X2, by decide +kernel, by decide +kernel, by decide +kernel⟩
theorem mv_X2_howManyTurned : MV yX2_howManyTurned := ⟨kN_X2_howManyTurned, kV_X2_howManyTurned⟩
theorem mi_X7_years : MI yX7_years cX7_years 3 (some .int) 1 := ⟨kC_X7_years, kI_X7, by decide +kernel, by decide +kernel, by decide +kernel⟩
theorem mv_X7_years : MV yX7_years := ⟨kN_X7_years, kV_X7_years⟩
theorem mi_X6_pass : MI yX6_pass cX6_pass 3 none 1 := ⟨kC_X6_pass, kI_X6, by decide +kernel, by decide +kernel, by decide +kernel⟩
theorem mv_X6_pass : MV yX6_pass := ⟨kN_X6_pass, kV_X6_pass⟩
theorem mi_X6_payDues : MI yX6_payDues cX6_payDues 2 none 0 := ⟨kC_X6_payDues, kI_X6, by decide +kernel, by decide +kernel, by decide +kernel⟩
theorem mv_X6_payDues : MV yX6_payDues := ⟨kN_X6_payDues, kV_X6_payDues⟩
theorem mi_X6_pay : MI yX6_pay cX6_pay 3 none 2 := ⟨kC_X6_pay, kI_X6, by decide +kernel, by decide +kernel, by decide +kernel⟩
theorem mv_X6_pay : MV yX6_pay := ⟨kN_X6_pay, kV_X6_pay⟩
theorem mi_X6_lookedAt : MI yX6_lookedAt cX6_lookedAt 1 (some .int) 0 := ⟨kC_X6_lookedAt, kI_X6, by decide +kernel, by decide +kernel, by decide +kernel⟩
theorem mv_X6_lookedAt : MV yX6_lookedAt := ⟨kN_X6_lookedAt, kV_X6_lookedAt⟩
theorem mi_X6_worst : MI yX6_worst cX6_worst 4 (some .int) 0 := ⟨kC_X6_worst, kI_X6, by decide +kernel, by decide +kernel, by decide +kernel⟩
theorem mv_X6_worst : MV yX6_worst := ⟨kN_X6_worst, kV_X6_worst⟩
theorem mi_X6_persuade : MI yX6_persuade cX6_persuade 3 none 1 := ⟨kC_X6_persuade, kI_X6, by decide +kernel, by decide +kernel, by decide +kernel⟩
theorem mv_X6_persuade : MV yX6_persuade := ⟨kN_X6_persuade, kV_X6_persuade⟩
theorem mi_X6_offOfAll : MI yX6_offOfAll cX6_offOfAll 5 (some .int) 2 := ⟨kC_X6_offOfAll, kI_X6, by decide +kernel, by decide +kernel, by decide +kernel⟩
theorem mv_X6_offOfAll : MV yX6_offOfAll := ⟨kN_X6_offOfAll, kV_X6_offOfAll⟩
theorem mi_X6_haveWhim : MI yX6_haveWhim cX6_haveWhim 2 none 0 := ⟨kC_X6_haveWhim, kI_X6, by decide +kernel, by decide +kernel, by decide +kernel⟩
theorem mv_X6_haveWhim : MV yX6_haveWhim := ⟨kN_X6_haveWhim, kV_X6_haveWhim⟩
theorem mi_X7_behind : MI yX7_behind cX7_behind 3 (some .int) 2 := ⟨kC_X7_behind, kI_X7, by decide +kernel, by decide +kernel, by decide +kernel⟩
theorem mv_X7_behind : MV yX7_behind := ⟨kN_X7_behind, kV_X7_behind⟩
theorem mi_X6_become : MI yX6_become cX6_become 2 none 1 := ⟨kC_X6_become, kI_X6, by decide +kernel, by decide +kernel, by decide +kernel⟩
theorem mv_X6_become : MV yX6_become := ⟨kN_X6_become, kV_X6_become⟩
theorem mi_X7_settles : MI yX7_settles cX7_settles 2 (some .int) 0 := ⟨kC_X7_settles, kI_X7, by decide +kernel, by decide +kernel, by decide +kernel⟩
theorem mv_X7_settles : MV yX7_settles := ⟨kN_X7_settles, kV_X7_settles⟩
theorem mi_X7_won : MI yX7_won cX7_won 7 (some .int) 2 := ⟨kC_X7_won, kI_X7, by decide +kernel, by decide +kernel, by decide +kernel⟩
theorem mv_X7_won : MV yX7_won := ⟨kN_X7_won, kV_X7_won⟩
theorem mi_X7_lied : MI yX7_lied cX7_lied 7 (some .int) 2 := ⟨kC_X7_lied, kI_X7, by decide +kernel, by decide +kernel, by decide +kernel⟩
theorem mv_X7_lied : MV yX7_lied := ⟨kN_X7_lied, kV_X7_lied⟩
theorem mi_X7_isNoSheet : MI yX7_isNoSheet cX7_isNoSheet 1 (some .boolean) 1 := ⟨kC_X7_isNoSheet, kI_X7, by decide +kernel, by decide +kernel, by decide +kernel⟩
theorem ms_X7_isNoSheet : MS yX7_isNoSheet := kS_X7_isNoSheet
theorem mi_X4_isMissing : MI yX4_isMissing cX4_isMissing 1 (some .boolean) 0 := ⟨kC_X4_isMissing, kI_X4, by decide +kernel, by decide +kernel, by decide +kernel⟩
theorem mv_X4_isMissing : MV yX4_isMissing := ⟨kN_X4_isMissing, kV_X4_isMissing⟩
theorem mi_X7_differences : MI yX7_differences cX7_differences 6 (some .int) 2 := ⟨kC_X7_differences, kI_X7, by decide +kernel, by decide +kernel, by decide +kernel⟩
theorem mv_X7_differences : MV yX7_differences := ⟨kN_X7_differences, kV_X7_differences⟩
theorem mi_X4_isNumber : MI yX4_isNumber cX4_isNumber 2 (some .boolean) 1 := ⟨kC_X4_isNumber, kI_X4, by decide +kernel, by decide +kernel, by decide +kernel⟩
theorem mv_X4_isNumber : MV yX4_isNumber := ⟨kN_X4_isNumber, kV_X4_isNumber⟩
theorem mi_X4_hasNo : MI yX4_hasNo cX4_hasNo 2 (some .boolean) 1 := ⟨kC_X4_hasNo, kI_X4, by decide +kernel, by decide +kernel, by decide +kernel⟩
theorem mv_X4_hasNo : MV yX4_hasNo := ⟨kN_X4_hasNo, kV_X4_hasNo⟩
theorem mi_X7_fee : MI yX7_fee cX7_fee 2 (some .int) 0 := ⟨kC_X7_fee, kI_X7, by decide +kernel, by decide +kernel, by decide +kernel⟩
theorem mv_X7_fee : MV yX7_fee := ⟨kN_X7_fee, kV_X7_fee⟩
theorem mi_X7_fine : MI yX7_fine cX7_fine 4 (some .int) 1 := ⟨kC_X7_fine, kI_X7, by decide +kernel, by decide +kernel, by decide +kernel⟩
theorem mv_X7_fine : MV yX7_fine := ⟨kN_X7_fine, kV_X7_fine⟩
theorem mi_X7_feed : MI yX7_feed cX7_feed 4 (some .int) 3 := ⟨kC_X7_feed, kI_X7, by decide +kernel, by decide +kernel, by decide +kernel⟩
theorem mv_X7_feed : MV yX7_feed := ⟨kN_X7_feed, kV_X7_feed⟩
theorem mi_X3_append : MI yX3_append cX3_append 3 none 1 := ⟨kC_X3_append, kI_X3, by decide +kernel, by decide +kernel, by decide +kernel⟩
theorem mv_X3_append : MV yX3_append := ⟨kN_X3_append, kV_X3_append⟩
theorem mi_X7_trim : MI yX7_trim cX7_trim 2 (some .int) 1 := ⟨kC_X7_trim, kI_X7, by decide +kernel, by decide +kernel, by decide +kernel⟩
theorem mv_X7_trim : MV yX7_trim := ⟨kN_X7_trim, kV_X7_trim⟩
theorem mi_X7_text : MI yX7_text cX7_text 3 (some .int) 0 := ⟨kC_X7_text, kI_X7, by decide +kernel, by decide +kernel, by decide +kernel⟩
theorem mv_X7_text : MV yX7_text := ⟨kN_X7_text, kV_X7_text⟩
theorem mi_X3_read : MI yX3_read cX3_read 1 (some .boolean) 0 := ⟨kC_X3_read, kI_X3, by decide +kernel, by decide +kernel, by decide +kernel⟩
theorem mv_X3_read : MV yX3_read := ⟨kN_X3_read, kV_X3_read⟩
theorem mi_X3_next : MI yX3_next cX3_next 4 none 0 := ⟨kC_X3_next, kI_X3, by decide +kernel, by decide +kernel, by decide +kernel⟩
theorem mv_X3_next : MV yX3_next := ⟨kN_X3_next, kV_X3_next⟩
theorem mi_X3_sortAt : MI yX3_sortAt cX3_sortAt 3 (some .int) 1 := ⟨kC_X3_sortAt, kI_X3, by decide +kernel, by decide +kernel, by decide +kernel⟩
theorem mv_X3_sortAt : MV yX3_sortAt := ⟨kN_X3_sortAt, kV_X3_sortAt⟩
theorem mi_X3_keyHere : MI yX3_keyHere cX3_keyHere 1 (some .int) 0 := ⟨kC_X3_keyHere, kI_X3, by decide +kernel, by decide +kernel, by decide +kernel⟩
theorem mv_X3_keyHere : MV yX3_keyHere := ⟨kN_X3_keyHere, kV_X3_keyHere⟩
theorem mi_X3_isHere : MI yX3_isHere cX3_isHere 3 (some .boolean) 1 := ⟨kC_X3_isHere, kI_X3, by decide +kernel, by decide +kernel, by decide +kernel⟩
theorem mv_X3_isHere : MV yX3_isHere := ⟨kN_X3_isHere, kV_X3_isHere⟩
theorem mi_J0_length_8abf5 : MI yJ0_length_8abf5 cJ0_length_8abf5 1 (some .int) 0 := ⟨kC_J0_length_8abf5, kI_J0, by decide +kernel, by decide +kernel, by decide +kernel⟩
theorem mv_J0_length_8abf5 : MV yJ0_length_8abf5 := ⟨kN_J0_length_8abf5, kV_J0_length_8abf5⟩
theorem mi_J0_coder_7d493 : MI yJ0_coder_7d493 cJ0_coder_7d493 1 (some .byte) 0 := ⟨kC_J0_coder_7d493, kI_J0, by decide +kernel, by decide +kernel, by decide +kernel⟩
theorem mv_J0_coder_7d493 : MV yJ0_coder_7d493 := ⟨kN_J0_coder_7d493, kV_J0_coder_7d493⟩
theorem mi_J0_charAt_5068e : MI yJ0_charAt_5068e cJ0_charAt_5068e 2 (some .char) 1 := ⟨kC_J0_charAt_5068e, kI_J0, by decide +kernel, by decide +kernel, by decide +kernel⟩
theorem mv_J0_charAt_5068e : MV yJ0_charAt_5068e := ⟨kN_J0_charAt_5068e, kV_J0_charAt_5068e⟩
theorem mi_J0_isLatin1_aae02 : MI yJ0_isLatin1_aae02 cJ0_isLatin1_aae02 1 (some .boolean) 0 := ⟨kC_J0_isLatin1_aae02, kI_J0, by decide +kernel, by decide +kernel, by decide +kernel⟩
theorem mv_J0_isLatin1_aae02 : MV yJ0_isLatin1_aae02 := ⟨kN_J0_isLatin1_aae02, kV_J0_isLatin1_aae02⟩
theorem mi_J1_charAt_3b067 : MI yJ1_charAt_3b067 cJ1_charAt_3b067 2 (some .char) 2 := ⟨kC_J1_charAt_3b067, kI_J1, by decide +kernel, by decide +kernel, by decide +kernel⟩
theorem ms_J1_charAt_3b067 : MS yJ1_charAt_3b067 := kS_J1_charAt_3b067
theorem mi_J0_checkIndex_df160 : MI yJ0_checkIndex_df160 cJ0_checkIndex_df160 2 none 2 := ⟨kC_J0_checkIndex_df160, kI_J0, by decide +kernel, by decide +kernel, by decide +kernel⟩
theorem ms_J0_checkIndex_df160 : MS yJ0_checkIndex_df160 := kS_J0_checkIndex_df160
theorem mi_J3_checkIndex_8e157 : MI yJ3_checkIndex_8e157 cJ3_checkIndex_8e157 3 (some .int) 3 := ⟨kC_J3_checkIndex_8e157, kI_J3, by decide +kernel, by decide +kernel, by decide +kernel⟩
theorem ms_J3_checkIndex_8e157 : MS yJ3_checkIndex_8e157 := kS_J3_checkIndex_8e157
theorem mi_J2_charAt_3b067 : MI yJ2_charAt_3b067 cJ2_charAt_3b067 2 (some .char) 2 := ⟨kC_J2_charAt_3b067, kI_J2, by decide +kernel, by decide +kernel, by decide +kernel⟩
theorem ms_J2_charAt_3b067 : MS yJ2_charAt_3b067 := kS_J2_charAt_3b067
theorem mi_J2_checkIndex_2214a : MI yJ2_checkIndex_2214a cJ2_checkIndex_2214a 2 none 2 := ⟨kC_J2_checkIndex_2214a, kI_J2, by decide +kernel, by decide +kernel, by decide +kernel⟩
theorem ms_J2_checkIndex_2214a : MS yJ2_checkIndex_2214a := kS_J2_checkIndex_2214a
theorem mi_J2_length_9d52b : MI yJ2_length_9d52b cJ2_length_9d52b 1 (some .int) 1 := ⟨kC_J2_length_9d52b, kI_J2, by decide +kernel, by decide +kernel, by decide +kernel⟩
theorem ms_J2_length_9d52b : MS yJ2_length_9d52b := kS_J2_length_9d52b
theorem mi_J2_getChar_3b067 : MI yJ2_getChar_3b067 cJ2_getChar_3b067 2 (some .char) 2 := ⟨kC_J2_getChar_3b067, kI_J2, by decide +kernel, by decide +kernel, by decide +kernel⟩
theorem ms_J2_getChar_3b067 : MS yJ2_getChar_3b067 := kS_J2_getChar_3b067
theorem mi_X3_level : MI yX3_level cX3_level 6 (some .boolean) 3 := ⟨kC_X3_level, kI_X3, by decide +kernel, by decide +kernel, by decide +kernel⟩
theorem mv_X3_level : MV yX3_level := ⟨kN_X3_level, kV_X3_level⟩
theorem mi_X3_side : MI yX3_side cX3_side 4 (some .boolean) 3 := ⟨kC_X3_side, kI_X3, by decide +kernel, by decide +kernel, by decide +kernel⟩
theorem mv_X3_side : MV yX3_side := ⟨kN_X3_side, kV_X3_side⟩
theorem mi_X3_piece : MI yX3_piece cX3_piece 3 (some .boolean) 2 := ⟨kC_X3_piece, kI_X3, by decide +kernel, by decide +kernel, by decide +kernel⟩
theorem mv_X3_piece : MV yX3_piece := ⟨kN_X3_piece, kV_X3_piece⟩
theorem mi_X3_negated : MI yX3_negated cX3_negated 3 (some .boolean) 2 := ⟨kC_X3_negated, kI_X3, by decide +kernel, by decide +kernel, by decide +kernel⟩
theorem mv_X3_negated : MV yX3_negated := ⟨kN_X3_negated, kV_X3_negated⟩
theorem mi_X3_put : MI yX3_put cX3_put 2 none 1 := ⟨kC_X3_put, kI_X3, by decide +kernel, by decide +kernel, by decide +kernel⟩
theorem mv_X3_put : MV yX3_put := ⟨kN_X3_put, kV_X3_put⟩
theorem mi_X3_enclosed : MI yX3_enclosed cX3_enclosed 3 (some .boolean) 2 := ⟨kC_X3_enclosed, kI_X3, by decide +kernel, by decide +kernel, by decide +kernel⟩
theorem mv_X3_enclosed : MV yX3_enclosed := ⟨kN_X3_enclosed, kV_X3_enclosed⟩
theorem mi_X3_number : MI yX3_number cX3_number 3 (some .boolean) 0 := ⟨kC_X3_number, kI_X3, by decide +kernel, by decide +kernel, by decide +kernel⟩
theorem mv_X3_number : MV yX3_number := ⟨kN_X3_number, kV_X3_number⟩
theorem mi_X3_name : MI yX3_name cX3_name 3 (some .boolean) 0 := ⟨kC_X3_name, kI_X3, by decide +kernel, by decide +kernel, by decide +kernel⟩
theorem mv_X3_name : MV yX3_name := ⟨kN_X3_name, kV_X3_name⟩
theorem mi_J0_indexOf_0f7a4 : MI yJ0_indexOf_0f7a4 cJ0_indexOf_0f7a4 2 (some .int) 1 := ⟨kC_J0_indexOf_0f7a4, kI_J0, by decide +kernel, by decide +kernel, by decide +kernel⟩
theorem mv_J0_indexOf_0f7a4 : MV yJ0_indexOf_0f7a4 := ⟨kN_J0_indexOf_0f7a4, kV_J0_indexOf_0f7a4⟩
theorem mi_J0_indexOf_7cf53 : MI yJ0_indexOf_7cf53 cJ0_indexOf_7cf53 3 (some .int) 2 := ⟨kC_J0_indexOf_7cf53, kI_J0, by decide +kernel, by decide +kernel, by decide +kernel⟩
theorem mv_J0_indexOf_7cf53 : MV yJ0_indexOf_7cf53 := ⟨kN_J0_indexOf_7cf53, kV_J0_indexOf_7cf53⟩
theorem mi_J1_indexOf_4cfef : MI yJ1_indexOf_4cfef cJ1_indexOf_4cfef 4 (some .int) 4 := ⟨kC_J1_indexOf_4cfef, kI_J1, by decide +kernel, by decide +kernel, by decide +kernel⟩
theorem ms_J1_indexOf_4cfef : MS yJ1_indexOf_4cfef := kS_J1_indexOf_4cfef
theorem mi_J1_canEncode_9a6ad : MI yJ1_canEncode_9a6ad cJ1_canEncode_9a6ad 1 (some .boolean) 1 := ⟨kC_J1_canEncode_9a6ad, kI_J1, by decide +kernel, by decide +kernel, by decide +kernel⟩
theorem ms_J1_canEncode_9a6ad : MS yJ1_canEncode_9a6ad := kS_J1_canEncode_9a6ad
theorem mi_J1_indexOfChar_4cfef : MI yJ1_indexOfChar_4cfef cJ1_indexOfChar_4cfef 6 (some .int) 4 := ⟨kC_J1_indexOfChar_4cfef, kI_J1, by decide +kernel, by decide +kernel, by decide +kernel⟩
theorem ms_J1_indexOfChar_4cfef : MS yJ1_indexOfChar_4cfef := kS_J1_indexOfChar_4cfef
theorem mi_J2_indexOf_4cfef : MI yJ2_indexOf_4cfef cJ2_indexOf_4cfef 4 (some .int) 4 := ⟨kC_J2_indexOf_4cfef, kI_J2, by decide +kernel, by decide +kernel, by decide +kernel⟩
theorem ms_J2_indexOf_4cfef : MS yJ2_indexOf_4cfef := kS_J2_indexOf_4cfef
theorem mi_J2_indexOfChar_4cfef : MI yJ2_indexOfChar_4cfef cJ2_indexOfChar_4cfef 4 (some .int) 4 := ⟨kC_J2_indexOfChar_4cfef, kI_J2, by decide +kernel, by decide +kernel, by decide +kernel⟩
theorem ms_J2_indexOfChar_4cfef : MS yJ2_indexOfChar_4cfef := kS_J2_indexOfChar_4cfef
theorem mi_J2_checkBoundsBeginEnd_d044e : MI yJ2_checkBoundsBeginEnd_d044e cJ2_checkBoundsBeginEnd_d044e 3 none 3 := ⟨kC_J2_checkBoundsBeginEnd_d044e, kI_J2, by decide +kernel, by decide +kernel, by decide +kernel⟩
theorem ms_J2_checkBoundsBeginEnd_d044e : MS yJ2_checkBoundsBeginEnd_d044e := kS_J2_checkBoundsBeginEnd_d044e
theorem mi_J0_checkBoundsBeginEnd_23922 : MI yJ0_checkBoundsBeginEnd_23922 cJ0_checkBoundsBeginEnd_23922 3 none 3 := ⟨kC_J0_checkBoundsBeginEnd_23922, kI_J0, by decide +kernel, by decide +kernel, by decide +kernel⟩
theorem ms_J0_checkBoundsBeginEnd_23922 : MS yJ0_checkBoundsBeginEnd_23922 := kS_J0_checkBoundsBeginEnd_23922
theorem mi_J3_checkFromToIndex_8c36e : MI yJ3_checkFromToIndex_8c36e cJ3_checkFromToIndex_8c36e 4 (some .int) 4 := ⟨kC_J3_checkFromToIndex_8c36e, kI_J3, by decide +kernel, by decide +kernel, by decide +kernel⟩
theorem ms_J3_checkFromToIndex_8c36e : MS yJ3_checkFromToIndex_8c36e := kS_J3_checkFromToIndex_8c36e
theorem mi_J2_indexOfCharUnsafe_4cfef : MI yJ2_indexOfCharUnsafe_4cfef cJ2_indexOfCharUnsafe_4cfef 5 (some .int) 4 := ⟨kC_J2_indexOfCharUnsafe_4cfef, kI_J2, by decide +kernel, by decide +kernel, by decide +kernel⟩
theorem ms_J2_indexOfCharUnsafe_4cfef : MS yJ2_indexOfCharUnsafe_4cfef := kS_J2_indexOfCharUnsafe_4cfef
theorem mi_J2_indexOfSupplementary_4cfef : MI yJ2_indexOfSupplementary_4cfef cJ2_indexOfSupplementary_4cfef 7 (some .int) 4 := ⟨kC_J2_indexOfSupplementary_4cfef, kI_J2, by decide +kernel, by decide +kernel, by decide +kernel⟩
theorem ms_J2_indexOfSupplementary_4cfef : MS yJ2_indexOfSupplementary_4cfef := kS_J2_indexOfSupplementary_4cfef
theorem mi_J11_isValidCodePoint_9a6ad : MI yJ11_isValidCodePoint_9a6ad cJ11_isValidCodePoint_9a6ad 2 (some .boolean) 1 := ⟨kC_J11_isValidCodePoint_9a6ad, kI_J11, by decide +kernel, by decide +kernel, by decide +kernel⟩
theorem ms_J11_isValidCodePoint_9a6ad : MS yJ11_isValidCodePoint_9a6ad := kS_J11_isValidCodePoint_9a6ad
theorem mi_J11_highSurrogate_5068e : MI yJ11_highSurrogate_5068e cJ11_highSurrogate_5068e 1 (some .char) 1 := ⟨kC_J11_highSurrogate_5068e, kI_J11, by decide +kernel, by decide +kernel, by decide +kernel⟩
theorem ms_J11_highSurrogate_5068e : MS yJ11_highSurrogate_5068e := kS_J11_highSurrogate_5068e
theorem mi_J11_lowSurrogate_5068e : MI yJ11_lowSurrogate_5068e cJ11_lowSurrogate_5068e 1 (some .char) 1 := ⟨kC_J11_lowSurrogate_5068e, kI_J11, by decide +kernel, by decide +kernel, by decide +kernel⟩
theorem ms_J11_lowSurrogate_5068e : MS yJ11_lowSurrogate_5068e := kS_J11_lowSurrogate_5068e
theorem mi_X3_joinsHere : MI yX3_joinsHere cX3_joinsHere 2 (some .boolean) 1 := ⟨kC_X3_joinsHere, kI_X3, by decide +kernel, by decide +kernel, by decide +kernel⟩
theorem mv_X3_joinsHere : MV yX3_joinsHere := ⟨kN_X3_joinsHere, kV_X3_joinsHere⟩
theorem mi_X3_signsOf : MI yX3_signsOf cX3_signsOf 1 (some (.object "java/lang/String")) 1 := ⟨kC_X3_signsOf, kI_X3, by decide +kernel, by decide +kernel, by decide +kernel⟩
theorem ms_X3_signsOf : MS yX3_signsOf := kS_X3_signsOf
theorem mi_X0_write : MI yX0_write cX0_write 3 none 2 := ⟨kC_X0_write, kI_X0, by decide +kernel, by decide +kernel, by decide +kernel⟩
theorem mv_X0_write : MV yX0_write := ⟨kN_X0_write, kV_X0_write⟩
theorem mi_X7_textTold : MI yX7_textTold cX7_textTold 3 (some .int) 2 := ⟨kC_X7_textTold, kI_X7, by decide +kernel, by decide +kernel, by decide +kernel⟩
theorem mv_X7_textTold : MV yX7_textTold := ⟨kN_X7_textTold, kV_X7_textTold⟩
theorem mi_X7_why : MI yX7_why cX7_why 3 (some .int) 1 := ⟨kC_X7_why, kI_X7, by decide +kernel, by decide +kernel, by decide +kernel⟩
theorem mv_X7_why : MV yX7_why := ⟨kN_X7_why, kV_X7_why⟩
theorem mi_X7_sheet : MI yX7_sheet cX7_sheet 4 (some .int) 3 := ⟨kC_X7_sheet, kI_X7, by decide +kernel, by decide +kernel, by decide +kernel⟩
theorem mv_X7_sheet : MV yX7_sheet := ⟨kN_X7_sheet, kV_X7_sheet⟩
theorem mi_X4_begin : MI yX4_begin cX4_begin 4 none 2 := ⟨kC_X4_begin, kI_X4, by decide +kernel, by decide +kernel, by decide +kernel⟩
theorem mv_X4_begin : MV yX4_begin := ⟨kN_X4_begin, kV_X4_begin⟩
theorem mi_X7_mark : MI yX7_mark cX7_mark 5 (some .int) 3 := ⟨kC_X7_mark, kI_X7, by decide +kernel, by decide +kernel, by decide +kernel⟩
theorem mv_X7_mark : MV yX7_mark := ⟨kN_X7_mark, kV_X7_mark⟩
theorem mi_X7_pour : MI yX7_pour cX7_pour 7 (some .int) 1 := ⟨kC_X7_pour, kI_X7, by decide +kernel, by decide +kernel, by decide +kernel⟩
theorem mv_X7_pour : MV yX7_pour := ⟨kN_X7_pour, kV_X7_pour⟩
theorem mi_X7_reads : MI yX7_reads cX7_reads 4 (some .int) 1 := ⟨kC_X7_reads, kI_X7, by decide +kernel, by decide +kernel, by decide +kernel⟩
theorem mv_X7_reads : MV yX7_reads := ⟨kN_X7_reads, kV_X7_reads⟩
theorem mi_X7_copy : MI yX7_copy cX7_copy 8 (some .int) 5 := ⟨kC_X7_copy, kI_X7, by decide +kernel, by decide +kernel, by decide +kernel⟩
theorem mv_X7_copy : MV yX7_copy := ⟨kN_X7_copy, kV_X7_copy⟩
theorem mi_X4_lacks : MI yX4_lacks cX4_lacks 3 (some .boolean) 2 := ⟨kC_X4_lacks, kI_X4, by decide +kernel, by decide +kernel, by decide +kernel⟩
theorem mv_X4_lacks : MV yX4_lacks := ⟨kN_X4_lacks, kV_X4_lacks⟩
theorem mi_X7_lay : MI yX7_lay cX7_lay 6 (some .int) 3 := ⟨kC_X7_lay, kI_X7, by decide +kernel, by decide +kernel, by decide +kernel⟩
theorem mv_X7_lay : MV yX7_lay := ⟨kN_X7_lay, kV_X7_lay⟩
theorem mi_X7_isNoSlot : MI yX7_isNoSlot cX7_isNoSlot 1 (some .boolean) 1 := ⟨kC_X7_isNoSlot, kI_X7, by decide +kernel, by decide +kernel, by decide +kernel⟩
theorem ms_X7_isNoSlot : MS yX7_isNoSlot := kS_X7_isNoSlot
theorem mi_X4_become : MI yX4_become cX4_become 2 none 1 := ⟨kC_X4_become, kI_X4, by decide +kernel, by decide +kernel, by decide +kernel⟩
theorem mv_X4_become : MV yX4_become := ⟨kN_X4_become, kV_X4_become⟩
theorem mi_X7_ask : MI yX7_ask cX7_ask 5 (some .int) 2 := ⟨kC_X7_ask, kI_X7, by decide +kernel, by decide +kernel, by decide +kernel⟩
theorem mv_X7_ask : MV yX7_ask := ⟨kN_X7_ask, kV_X7_ask⟩
theorem mi_X5_isNot : MI yX5_isNot cX5_isNot 2 (some .int) 1 := ⟨kC_X5_isNot, kI_X5, by decide +kernel, by decide +kernel, by decide +kernel⟩
theorem mv_X5_isNot : MV yX5_isNot := ⟨kN_X5_isNot, kV_X5_isNot⟩
theorem mi_X7_item : MI yX7_item cX7_item 5 (some .int) 2 := ⟨kC_X7_item, kI_X7, by decide +kernel, by decide +kernel, by decide +kernel⟩
theorem mv_X7_item : MV yX7_item := ⟨kN_X7_item, kV_X7_item⟩
theorem mi_X7_rest : MI yX7_rest cX7_rest 4 (some .int) 2 := ⟨kC_X7_rest, kI_X7, by decide +kernel, by decide +kernel, by decide +kernel⟩
theorem mv_X7_rest : MV yX7_rest := ⟨kN_X7_rest, kV_X7_rest⟩
theorem mi_X7_tell : MI yX7_tell cX7_tell 2 (some .int) 1 := ⟨kC_X7_tell, kI_X7, by decide +kernel, by decide +kernel, by decide +kernel⟩
theorem mv_X7_tell : MV yX7_tell := ⟨kN_X7_tell, kV_X7_tell⟩
theorem mi_X7_check : MI yX7_check cX7_check 6 (some .int) 1 := ⟨kC_X7_check, kI_X7, by decide +kernel, by decide +kernel, by decide +kernel⟩
theorem mv_X7_check : MV yX7_check := ⟨kN_X7_check, kV_X7_check⟩
theorem mi_X7_keep : MI yX7_keep cX7_keep 1 (some .int) 0 := ⟨kC_X7_keep, kI_X7, by decide +kernel, by decide +kernel, by decide +kernel⟩
theorem mv_X7_keep : MV yX7_keep := ⟨kN_X7_keep, kV_X7_keep⟩
theorem mi_X7_back : MI yX7_back cX7_back 1 (some .int) 0 := ⟨kC_X7_back, kI_X7, by decide +kernel, by decide +kernel, by decide +kernel⟩
theorem mv_X7_back : MV yX7_back := ⟨kN_X7_back, kV_X7_back⟩
theorem mi_X7_count : MI yX7_count cX7_count 2 (some .int) 1 := ⟨kC_X7_count, kI_X7, by decide +kernel, by decide +kernel, by decide +kernel⟩
theorem mv_X7_count : MV yX7_count := ⟨kN_X7_count, kV_X7_count⟩
theorem mi_X8_person : MI yX8_person cX8_person 4 (some .int) 3 := ⟨kC_X8_person, kI_X8, by decide +kernel, by decide +kernel, by decide +kernel⟩
theorem mv_X8_person : MV yX8_person := ⟨kN_X8_person, kV_X8_person⟩
theorem mi_X8_isIn : MI yX8_isIn cX8_isIn 6 (some .boolean) 3 := ⟨kC_X8_isIn, kI_X8, by decide +kernel, by decide +kernel, by decide +kernel⟩
theorem ms_X8_isIn : MS yX8_isIn := kS_X8_isIn
theorem mi_X8_comes : MI yX8_comes cX8_comes 5 none 3 := ⟨kC_X8_comes, kI_X8, by decide +kernel, by decide +kernel, by decide +kernel⟩
theorem mv_X8_comes : MV yX8_comes := ⟨kN_X8_comes, kV_X8_comes⟩
theorem mi_X8_sets : MI yX8_sets cX8_sets 4 none 3 := ⟨kC_X8_sets, kI_X8, by decide +kernel, by decide +kernel, by decide +kernel⟩
theorem mv_X8_sets : MV yX8_sets := ⟨kN_X8_sets, kV_X8_sets⟩
theorem mi_X8_told : MI yX8_told cX8_told 3 (some .int) 2 := ⟨kC_X8_told, kI_X8, by decide +kernel, by decide +kernel, by decide +kernel⟩
theorem mv_X8_told : MV yX8_told := ⟨kN_X8_told, kV_X8_told⟩
theorem mi_X8_isOne : MI yX8_isOne cX8_isOne 2 (some .boolean) 1 := ⟨kC_X8_isOne, kI_X8, by decide +kernel, by decide +kernel, by decide +kernel⟩
theorem mv_X8_isOne : MV yX8_isOne := ⟨kN_X8_isOne, kV_X8_isOne⟩
theorem mi_X8_of : MI yX8_of cX8_of 3 (some .int) 2 := ⟨kC_X8_of, kI_X8, by decide +kernel, by decide +kernel, by decide +kernel⟩
theorem mv_X8_of : MV yX8_of := ⟨kN_X8_of, kV_X8_of⟩
theorem mi_X8_offOf : MI yX8_offOf cX8_offOf 2 (some .int) 1 := ⟨kC_X8_offOf, kI_X8, by decide +kernel, by decide +kernel, by decide +kernel⟩
theorem mv_X8_offOf : MV yX8_offOf := ⟨kN_X8_offOf, kV_X8_offOf⟩
theorem mi_X8_forNow : MI yX8_forNow cX8_forNow 3 (some .int) 0 := ⟨kC_X8_forNow, kI_X8, by decide +kernel, by decide +kernel, by decide +kernel⟩
theorem mv_X8_forNow : MV yX8_forNow := ⟨kN_X8_forNow, kV_X8_forNow⟩
theorem mi_X8_offBy : MI yX8_offBy cX8_offBy 4 (some .int) 2 := ⟨kC_X8_offBy, kI_X8, by decide +kernel, by decide +kernel, by decide +kernel⟩
theorem mv_X8_offBy : MV yX8_offBy := ⟨kN_X8_offBy, kV_X8_offBy⟩
theorem mi_X8_manyIn : MI yX8_manyIn cX8_manyIn 3 (some .int) 1 := ⟨kC_X8_manyIn, kI_X8, by decide +kernel, by decide +kernel, by decide +kernel⟩
theorem ms_X8_manyIn : MS yX8_manyIn := kS_X8_manyIn
theorem mi_X8_off : MI yX8_off cX8_off 2 (some .int) 2 := ⟨kC_X8_off, kI_X8, by decide +kernel, by decide +kernel, by decide +kernel⟩
theorem ms_X8_off : MS yX8_off := kS_X8_off
theorem mi_X8_dues : MI yX8_dues cX8_dues 4 (some .int) 1 := ⟨kC_X8_dues, kI_X8, by decide +kernel, by decide +kernel, by decide +kernel⟩
theorem mv_X8_dues : MV yX8_dues := ⟨kN_X8_dues, kV_X8_dues⟩
theorem mi_X8_counts : MI yX8_counts cX8_counts 4 (some .int) 1 := ⟨kC_X8_counts, kI_X8, by decide +kernel, by decide +kernel, by decide +kernel⟩
theorem mv_X8_counts : MV yX8_counts := ⟨kN_X8_counts, kV_X8_counts⟩
theorem mi_X8_textAt : MI yX8_textAt cX8_textAt 2 (some .int) 1 := ⟨kC_X8_textAt, kI_X8, by decide +kernel, by decide +kernel, by decide +kernel⟩
theorem mv_X8_textAt : MV yX8_textAt := ⟨kN_X8_textAt, kV_X8_textAt⟩
theorem mi_X8_worked : MI yX8_worked cX8_worked 6 (some .int) 1 := ⟨kC_X8_worked, kI_X8, by decide +kernel, by decide +kernel, by decide +kernel⟩
theorem mv_X8_worked : MV yX8_worked := ⟨kN_X8_worked, kV_X8_worked⟩
theorem mi_X8_joined : MI yX8_joined cX8_joined 3 (some .int) 3 := ⟨kC_X8_joined, kI_X8, by decide +kernel, by decide +kernel, by decide +kernel⟩
theorem ms_X8_joined : MS yX8_joined := kS_X8_joined
theorem mi_X8_within : MI yX8_within cX8_within 3 (some .int) 3 := ⟨kC_X8_within, kI_X8, by decide +kernel, by decide +kernel, by decide +kernel⟩
theorem ms_X8_within : MS yX8_within := kS_X8_within
theorem mi_X8_asks : MI yX8_asks cX8_asks 3 (some .int) 1 := ⟨kC_X8_asks, kI_X8, by decide +kernel, by decide +kernel, by decide +kernel⟩
theorem mv_X8_asks : MV yX8_asks := ⟨kN_X8_asks, kV_X8_asks⟩
theorem mi_X8_worth : MI yX8_worth cX8_worth 3 (some .int) 1 := ⟨kC_X8_worth, kI_X8, by decide +kernel, by decide +kernel, by decide +kernel⟩
theorem mv_X8_worth : MV yX8_worth := ⟨kN_X8_worth, kV_X8_worth⟩
theorem mi_X8_as : MI yX8_as cX8_as 3 (some .int) 2 := ⟨kC_X8_as, kI_X8, by decide +kernel, by decide +kernel, by decide +kernel⟩
theorem mv_X8_as : MV yX8_as := ⟨kN_X8_as, kV_X8_as⟩
theorem mi_X8_isOf : MI yX8_isOf cX8_isOf 2 (some .boolean) 2 := ⟨kC_X8_isOf, kI_X8, by decide +kernel, by decide +kernel, by decide +kernel⟩
theorem ms_X8_isOf : MS yX8_isOf := kS_X8_isOf
theorem mi_X8_turns : MI yX8_turns cX8_turns 3 (some .int) 2 := ⟨kC_X8_turns, kI_X8, by decide +kernel, by decide +kernel, by decide +kernel⟩
theorem mv_X8_turns : MV yX8_turns := ⟨kN_X8_turns, kV_X8_turns⟩
theorem mi_X8_becomes : MI yX8_becomes cX8_becomes 4 (some .int) 2 := ⟨kC_X8_becomes, kI_X8, by decide +kernel, by decide +kernel, by decide +kernel⟩
theorem mv_X8_becomes : MV yX8_becomes := ⟨kN_X8_becomes, kV_X8_becomes⟩
theorem mi_X8_set : MI yX8_set cX8_set 4 (some .int) 3 := ⟨kC_X8_set, kI_X8, by decide +kernel, by decide +kernel, by decide +kernel⟩
theorem mv_X8_set : MV yX8_set := ⟨kN_X8_set, kV_X8_set⟩
theorem mi_X8_friends : MI yX8_friends cX8_friends 5 (some .int) 3 := ⟨kC_X8_friends, kI_X8, by decide +kernel, by decide +kernel, by decide +kernel⟩
theorem mv_X8_friends : MV yX8_friends := ⟨kN_X8_friends, kV_X8_friends⟩
theorem mi_X8_areFriends : MI yX8_areFriends cX8_areFriends 3 (some .int) 2 := ⟨kC_X8_areFriends, kI_X8, by decide +kernel, by decide +kernel, by decide +kernel⟩
theorem mv_X8_areFriends : MV yX8_areFriends := ⟨kN_X8_areFriends, kV_X8_areFriends⟩
theorem mi_X8_joins : MI yX8_joins cX8_joins 4 none 3 := ⟨kC_X8_joins, kI_X8, by decide +kernel, by decide +kernel, by decide +kernel⟩
theorem mv_X8_joins : MV yX8_joins := ⟨kN_X8_joins, kV_X8_joins⟩
theorem mi_X8_rule : MI yX8_rule cX8_rule 3 (some .int) 2 := ⟨kC_X8_rule, kI_X8, by decide +kernel, by decide +kernel, by decide +kernel⟩
theorem mv_X8_rule : MV yX8_rule := ⟨kN_X8_rule, kV_X8_rule⟩
theorem mi_X8_deal : MI yX8_deal cX8_deal 5 (some .int) 1 := ⟨kC_X8_deal, kI_X8, by decide +kernel, by decide +kernel, by decide +kernel⟩
theorem mv_X8_deal : MV yX8_deal := ⟨kN_X8_deal, kV_X8_deal⟩
theorem mi_X8_drawn : MI yX8_drawn cX8_drawn 1 (some .int) 0 := ⟨kC_X8_drawn, kI_X8, by decide +kernel, by decide +kernel, by decide +kernel⟩
theorem mv_X8_drawn : MV yX8_drawn := ⟨kN_X8_drawn, kV_X8_drawn⟩
theorem mi_X8_seed : MI yX8_seed cX8_seed 2 (some .int) 1 := ⟨kC_X8_seed, kI_X8, by decide +kernel, by decide +kernel, by decide +kernel⟩
theorem mv_X8_seed : MV yX8_seed := ⟨kN_X8_seed, kV_X8_seed⟩
theorem mi_X8_town : MI yX8_town cX8_town 2 (some .int) 1 := ⟨kC_X8_town, kI_X8, by decide +kernel, by decide +kernel, by decide +kernel⟩
theorem mv_X8_town : MV yX8_town := ⟨kN_X8_town, kV_X8_town⟩
theorem mi_X8_allOff : MI yX8_allOff cX8_allOff 3 (some .int) 0 := ⟨kC_X8_allOff, kI_X8, by decide +kernel, by decide +kernel, by decide +kernel⟩
theorem mv_X8_allOff : MV yX8_allOff := ⟨kN_X8_allOff, kV_X8_allOff⟩
theorem mi_X8_disorder : MI yX8_disorder cX8_disorder 4 (some .int) 1 := ⟨kC_X8_disorder, kI_X8, by decide +kernel, by decide +kernel, by decide +kernel⟩
theorem mv_X8_disorder : MV yX8_disorder := ⟨kN_X8_disorder, kV_X8_disorder⟩
theorem mi_X8_oddOnes : MI yX8_oddOnes cX8_oddOnes 3 (some .int) 0 := ⟨kC_X8_oddOnes, kI_X8, by decide +kernel, by decide +kernel, by decide +kernel⟩
theorem mv_X8_oddOnes : MV yX8_oddOnes := ⟨kN_X8_oddOnes, kV_X8_oddOnes⟩
theorem mi_X8_ways : MI yX8_ways cX8_ways 3 (some .int) 0 := ⟨kC_X8_ways, kI_X8, by decide +kernel, by decide +kernel, by decide +kernel⟩
theorem mv_X8_ways : MV yX8_ways := ⟨kN_X8_ways, kV_X8_ways⟩
theorem mi_X8_isWay : MI yX8_isWay cX8_isWay 2 (some .boolean) 1 := ⟨kC_X8_isWay, kI_X8, by decide +kernel, by decide +kernel, by decide +kernel⟩
theorem mv_X8_isWay : MV yX8_isWay := ⟨kN_X8_isWay, kV_X8_isWay⟩
theorem mi_X8_fixedOnes : MI yX8_fixedOnes cX8_fixedOnes 3 (some .int) 0 := ⟨kC_X8_fixedOnes, kI_X8, by decide +kernel, by decide +kernel, by decide +kernel⟩
theorem mv_X8_fixedOnes : MV yX8_fixedOnes := ⟨kN_X8_fixedOnes, kV_X8_fixedOnes⟩
theorem mi_X8_minds : MI yX8_minds cX8_minds 5 (some .int) 1 := ⟨kC_X8_minds, kI_X8, by decide +kernel, by decide +kernel, by decide +kernel⟩
theorem mv_X8_minds : MV yX8_minds := ⟨kN_X8_minds, kV_X8_minds⟩
theorem mi_X8_cost : MI yX8_cost cX8_cost 3 (some .int) 2 := ⟨kC_X8_cost, kI_X8, by decide +kernel, by decide +kernel, by decide +kernel⟩
theorem mv_X8_cost : MV yX8_cost := ⟨kN_X8_cost, kV_X8_cost⟩
theorem mi_X8_price : MI yX8_price cX8_price 4 (some .int) 1 := ⟨kC_X8_price, kI_X8, by decide +kernel, by decide +kernel, by decide +kernel⟩
theorem mv_X8_price : MV yX8_price := ⟨kN_X8_price, kV_X8_price⟩
theorem mi_X8_orNone : MI yX8_orNone cX8_orNone 1 (some .int) 1 := ⟨kC_X8_orNone, kI_X8, by decide +kernel, by decide +kernel, by decide +kernel⟩
theorem ms_X8_orNone : MS yX8_orNone := kS_X8_orNone
theorem mi_X8_freedom : MI yX8_freedom cX8_freedom 4 (some .int) 0 := ⟨kC_X8_freedom, kI_X8, by decide +kernel, by decide +kernel, by decide +kernel⟩
theorem mv_X8_freedom : MV yX8_freedom := ⟨kN_X8_freedom, kV_X8_freedom⟩
theorem mi_X8_together : MI yX8_together cX8_together 5 (some .int) 0 := ⟨kC_X8_together, kI_X8, by decide +kernel, by decide +kernel, by decide +kernel⟩
theorem mv_X8_together : MV yX8_together := ⟨kN_X8_together, kV_X8_together⟩
theorem mi_X8_best : MI yX8_best cX8_best 8 (some .int) 2 := ⟨kC_X8_best, kI_X8, by decide +kernel, by decide +kernel, by decide +kernel⟩
theorem mv_X8_best : MV yX8_best := ⟨kN_X8_best, kV_X8_best⟩
theorem mi_X8_years : MI yX8_years cX8_years 4 (some .int) 1 := ⟨kC_X8_years, kI_X8, by decide +kernel, by decide +kernel, by decide +kernel⟩
theorem mv_X8_years : MV yX8_years := ⟨kN_X8_years, kV_X8_years⟩
theorem mi_X8_goesOn : MI yX8_goesOn cX8_goesOn 3 none 0 := ⟨kC_X8_goesOn, kI_X8, by decide +kernel, by decide +kernel, by decide +kernel⟩
theorem mv_X8_goesOn : MV yX8_goesOn := ⟨kN_X8_goesOn, kV_X8_goesOn⟩
theorem mi_X8_pays : MI yX8_pays cX8_pays 3 none 2 := ⟨kC_X8_pays, kI_X8, by decide +kernel, by decide +kernel, by decide +kernel⟩
theorem mv_X8_pays : MV yX8_pays := ⟨kN_X8_pays, kV_X8_pays⟩
theorem mi_X8_lookedAt : MI yX8_lookedAt cX8_lookedAt 1 (some .int) 0 := ⟨kC_X8_lookedAt, kI_X8, by decide +kernel, by decide +kernel, by decide +kernel⟩
theorem mv_X8_lookedAt : MV yX8_lookedAt := ⟨kN_X8_lookedAt, kV_X8_lookedAt⟩
theorem mi_X8_worst : MI yX8_worst cX8_worst 3 (some .int) 0 := ⟨kC_X8_worst, kI_X8, by decide +kernel, by decide +kernel, by decide +kernel⟩
theorem mv_X8_worst : MV yX8_worst := ⟨kN_X8_worst, kV_X8_worst⟩
theorem mi_X8_around : MI yX8_around cX8_around 5 (some .int) 2 := ⟨kC_X8_around, kI_X8, by decide +kernel, by decide +kernel, by decide +kernel⟩
theorem mv_X8_around : MV yX8_around := ⟨kN_X8_around, kV_X8_around⟩
theorem mi_X8_changes : MI yX8_changes cX8_changes 2 none 1 := ⟨kC_X8_changes, kI_X8, by decide +kernel, by decide +kernel, by decide +kernel⟩
theorem mv_X8_changes : MV yX8_changes := ⟨kN_X8_changes, kV_X8_changes⟩
theorem mi_X8_behind : MI yX8_behind cX8_behind 4 (some .int) 2 := ⟨kC_X8_behind, kI_X8, by decide +kernel, by decide +kernel, by decide +kernel⟩
theorem mv_X8_behind : MV yX8_behind := ⟨kN_X8_behind, kV_X8_behind⟩
theorem mi_X8_laysBy : MI yX8_laysBy cX8_laysBy 2 none 0 := ⟨kC_X8_laysBy, kI_X8, by decide +kernel, by decide +kernel, by decide +kernel⟩
theorem mv_X8_laysBy : MV yX8_laysBy := ⟨kN_X8_laysBy, kV_X8_laysBy⟩
theorem mi_X8_goesOnMany : MI yX8_goesOnMany cX8_goesOnMany 3 none 1 := ⟨kC_X8_goesOnMany, kI_X8, by decide +kernel, by decide +kernel, by decide +kernel⟩
theorem mv_X8_goesOnMany : MV yX8_goesOnMany := ⟨kN_X8_goesOnMany, kV_X8_goesOnMany⟩
theorem mi_X8_laysBack : MI yX8_laysBack cX8_laysBack 2 none 0 := ⟨kC_X8_laysBack, kI_X8, by decide +kernel, by decide +kernel, by decide +kernel⟩
theorem mv_X8_laysBack : MV yX8_laysBack := ⟨kN_X8_laysBack, kV_X8_laysBack⟩
theorem mi_X8_settles : MI yX8_settles cX8_settles 3 (some .int) 0 := ⟨kC_X8_settles, kI_X8, by decide +kernel, by decide +kernel, by decide +kernel⟩
theorem mv_X8_settles : MV yX8_settles := ⟨kN_X8_settles, kV_X8_settles⟩
theorem mi_X8_won : MI yX8_won cX8_won 7 (some .int) 2 := ⟨kC_X8_won, kI_X8, by decide +kernel, by decide +kernel, by decide +kernel⟩
theorem mv_X8_won : MV yX8_won := ⟨kN_X8_won, kV_X8_won⟩
theorem mi_X8_fee : MI yX8_fee cX8_fee 2 (some .int) 0 := ⟨kC_X8_fee, kI_X8, by decide +kernel, by decide +kernel, by decide +kernel⟩
theorem mv_X8_fee : MV yX8_fee := ⟨kN_X8_fee, kV_X8_fee⟩
theorem mi_X8_fine : MI yX8_fine cX8_fine 3 (some .int) 1 := ⟨kC_X8_fine, kI_X8, by decide +kernel, by decide +kernel, by decide +kernel⟩
theorem mv_X8_fine : MV yX8_fine := ⟨kN_X8_fine, kV_X8_fine⟩
theorem mi_X8_feed : MI yX8_feed cX8_feed 6 (some .int) 3 := ⟨kC_X8_feed, kI_X8, by decide +kernel, by decide +kernel, by decide +kernel⟩
theorem mv_X8_feed : MV yX8_feed := ⟨kN_X8_feed, kV_X8_feed⟩
theorem mi_X8_trim : MI yX8_trim cX8_trim 2 (some .int) 1 := ⟨kC_X8_trim, kI_X8, by decide +kernel, by decide +kernel, by decide +kernel⟩
theorem mv_X8_trim : MV yX8_trim := ⟨kN_X8_trim, kV_X8_trim⟩
theorem mi_X8_text : MI yX8_text cX8_text 3 (some .int) 0 := ⟨kC_X8_text, kI_X8, by decide +kernel, by decide +kernel, by decide +kernel⟩
theorem mv_X8_text : MV yX8_text := ⟨kN_X8_text, kV_X8_text⟩
theorem mi_X8_parse : MI yX8_parse cX8_parse 3 (some .int) 0 := ⟨kC_X8_parse, kI_X8, by decide +kernel, by decide +kernel, by decide +kernel⟩
theorem mv_X8_parse : MV yX8_parse := ⟨kN_X8_parse, kV_X8_parse⟩
theorem mi_X8_nextToken : MI yX8_nextToken cX8_nextToken 3 none 0 := ⟨kC_X8_nextToken, kI_X8, by decide +kernel, by decide +kernel, by decide +kernel⟩
theorem mv_X8_nextToken : MV yX8_nextToken := ⟨kN_X8_nextToken, kV_X8_nextToken⟩
theorem mi_X8_isLetter : MI yX8_isLetter cX8_isLetter 2 (some .boolean) 1 := ⟨kC_X8_isLetter, kI_X8, by decide +kernel, by decide +kernel, by decide +kernel⟩
theorem mv_X8_isLetter : MV yX8_isLetter := ⟨kN_X8_isLetter, kV_X8_isLetter⟩
theorem mi_X8_isDigit : MI yX8_isDigit cX8_isDigit 2 (some .boolean) 1 := ⟨kC_X8_isDigit, kI_X8, by decide +kernel, by decide +kernel, by decide +kernel⟩
theorem mv_X8_isDigit : MV yX8_isDigit := ⟨kN_X8_isDigit, kV_X8_isDigit⟩
theorem mi_X8_key : MI yX8_key cX8_key 1 (some .int) 0 := ⟨kC_X8_key, kI_X8, by decide +kernel, by decide +kernel, by decide +kernel⟩
theorem mv_X8_key : MV yX8_key := ⟨kN_X8_key, kV_X8_key⟩
theorem mi_X8_isWordAt : MI yX8_isWordAt cX8_isWordAt 6 (some .boolean) 4 := ⟨kC_X8_isWordAt, kI_X8, by decide +kernel, by decide +kernel, by decide +kernel⟩
theorem mv_X8_isWordAt : MV yX8_isWordAt := ⟨kN_X8_isWordAt, kV_X8_isWordAt⟩
theorem mi_X8_either : MI yX8_either cX8_either 2 (some .boolean) 1 := ⟨kC_X8_either, kI_X8, by decide +kernel, by decide +kernel, by decide +kernel⟩
theorem mv_X8_either : MV yX8_either := ⟨kN_X8_either, kV_X8_either⟩
theorem mi_X8_both : MI yX8_both cX8_both 2 (some .boolean) 1 := ⟨kC_X8_both, kI_X8, by decide +kernel, by decide +kernel, by decide +kernel⟩
theorem mv_X8_both : MV yX8_both := ⟨kN_X8_both, kV_X8_both⟩
theorem mi_X8_test : MI yX8_test cX8_test 3 (some .boolean) 1 := ⟨kC_X8_test, kI_X8, by decide +kernel, by decide +kernel, by decide +kernel⟩
theorem mv_X8_test : MV yX8_test := ⟨kN_X8_test, kV_X8_test⟩
theorem mi_X8_sum : MI yX8_sum cX8_sum 3 (some .boolean) 1 := ⟨kC_X8_sum, kI_X8, by decide +kernel, by decide +kernel, by decide +kernel⟩
theorem mv_X8_sum : MV yX8_sum := ⟨kN_X8_sum, kV_X8_sum⟩
theorem mi_X8_term : MI yX8_term cX8_term 3 (some .boolean) 1 := ⟨kC_X8_term, kI_X8, by decide +kernel, by decide +kernel, by decide +kernel⟩
theorem mv_X8_term : MV yX8_term := ⟨kN_X8_term, kV_X8_term⟩
theorem mi_X8_part0 : MI yX8_part0 cX8_part0 2 (some .boolean) 1 := ⟨kC_X8_part0, kI_X8, by decide +kernel, by decide +kernel, by decide +kernel⟩
theorem mv_X8_part0 : MV yX8_part0 := ⟨kN_X8_part0, kV_X8_part0⟩
theorem mi_X8_step : MI yX8_step cX8_step 3 none 2 := ⟨kC_X8_step, kI_X8, by decide +kernel, by decide +kernel, by decide +kernel⟩
theorem mv_X8_step : MV yX8_step := ⟨kN_X8_step, kV_X8_step⟩
theorem mi_X8_isName : MI yX8_isName cX8_isName 2 (some .boolean) 2 := ⟨kC_X8_isName, kI_X8, by decide +kernel, by decide +kernel, by decide +kernel⟩
theorem ms_X8_isName : MS yX8_isName := kS_X8_isName
theorem mi_X8_isSign : MI yX8_isSign cX8_isSign 2 (some .boolean) 1 := ⟨kC_X8_isSign, kI_X8, by decide +kernel, by decide +kernel, by decide +kernel⟩
theorem mv_X8_isSign : MV yX8_isSign := ⟨kN_X8_isSign, kV_X8_isSign⟩
theorem mi_X8_textTold : MI yX8_textTold cX8_textTold 3 (some .int) 2 := ⟨kC_X8_textTold, kI_X8, by decide +kernel, by decide +kernel, by decide +kernel⟩
theorem mv_X8_textTold : MV yX8_textTold := ⟨kN_X8_textTold, kV_X8_textTold⟩
theorem mi_X8_isText : MI yX8_isText cX8_isText 2 (some .boolean) 1 := ⟨kC_X8_isText, kI_X8, by decide +kernel, by decide +kernel, by decide +kernel⟩
theorem mv_X8_isText : MV yX8_isText := ⟨kN_X8_isText, kV_X8_isText⟩
theorem mi_X8_why : MI yX8_why cX8_why 2 (some .int) 1 := ⟨kC_X8_why, kI_X8, by decide +kernel, by decide +kernel, by decide +kernel⟩
theorem mv_X8_why : MV yX8_why := ⟨kN_X8_why, kV_X8_why⟩
theorem mi_X8_sheet : MI yX8_sheet cX8_sheet 5 (some .int) 3 := ⟨kC_X8_sheet, kI_X8, by decide +kernel, by decide +kernel, by decide +kernel⟩
theorem mv_X8_sheet : MV yX8_sheet := ⟨kN_X8_sheet, kV_X8_sheet⟩
theorem mi_X8_isSheet : MI yX8_isSheet cX8_isSheet 1 (some .boolean) 1 := ⟨kC_X8_isSheet, kI_X8, by decide +kernel, by decide +kernel, by decide +kernel⟩
theorem ms_X8_isSheet : MS yX8_isSheet := kS_X8_isSheet
theorem mi_X8_mark : MI yX8_mark cX8_mark 4 (some .int) 3 := ⟨kC_X8_mark, kI_X8, by decide +kernel, by decide +kernel, by decide +kernel⟩
theorem mv_X8_mark : MV yX8_mark := ⟨kN_X8_mark, kV_X8_mark⟩
theorem mi_X8_pour : MI yX8_pour cX8_pour 6 (some .int) 1 := ⟨kC_X8_pour, kI_X8, by decide +kernel, by decide +kernel, by decide +kernel⟩
theorem mv_X8_pour : MV yX8_pour := ⟨kN_X8_pour, kV_X8_pour⟩
theorem mi_X8_isFor : MI yX8_isFor cX8_isFor 1 (some .int) 1 := ⟨kC_X8_isFor, kI_X8, by decide +kernel, by decide +kernel, by decide +kernel⟩
theorem ms_X8_isFor : MS yX8_isFor := kS_X8_isFor
theorem mi_X8_reads : MI yX8_reads cX8_reads 4 (some .int) 1 := ⟨kC_X8_reads, kI_X8, by decide +kernel, by decide +kernel, by decide +kernel⟩
theorem mv_X8_reads : MV yX8_reads := ⟨kN_X8_reads, kV_X8_reads⟩
theorem mi_X8_lied : MI yX8_lied cX8_lied 10 (some .int) 2 := ⟨kC_X8_lied, kI_X8, by decide +kernel, by decide +kernel, by decide +kernel⟩
theorem mv_X8_lied : MV yX8_lied := ⟨kN_X8_lied, kV_X8_lied⟩
theorem mi_X8_copy : MI yX8_copy cX8_copy 7 (some .int) 5 := ⟨kC_X8_copy, kI_X8, by decide +kernel, by decide +kernel, by decide +kernel⟩
theorem mv_X8_copy : MV yX8_copy := ⟨kN_X8_copy, kV_X8_copy⟩
theorem mi_X8_lay : MI yX8_lay cX8_lay 7 (some .int) 3 := ⟨kC_X8_lay, kI_X8, by decide +kernel, by decide +kernel, by decide +kernel⟩
theorem mv_X8_lay : MV yX8_lay := ⟨kN_X8_lay, kV_X8_lay⟩
theorem mi_X8_isSlot : MI yX8_isSlot cX8_isSlot 1 (some .boolean) 1 := ⟨kC_X8_isSlot, kI_X8, by decide +kernel, by decide +kernel, by decide +kernel⟩
theorem ms_X8_isSlot : MS yX8_isSlot := kS_X8_isSlot
theorem mi_X8_ask : MI yX8_ask cX8_ask 3 (some .int) 2 := ⟨kC_X8_ask, kI_X8, by decide +kernel, by decide +kernel, by decide +kernel⟩
theorem mv_X8_ask : MV yX8_ask := ⟨kN_X8_ask, kV_X8_ask⟩
theorem mi_X8_item : MI yX8_item cX8_item 4 (some .int) 2 := ⟨kC_X8_item, kI_X8, by decide +kernel, by decide +kernel, by decide +kernel⟩
theorem mv_X8_item : MV yX8_item := ⟨kN_X8_item, kV_X8_item⟩
theorem mi_X8_rest : MI yX8_rest cX8_rest 3 (some .int) 2 := ⟨kC_X8_rest, kI_X8, by decide +kernel, by decide +kernel, by decide +kernel⟩
theorem mv_X8_rest : MV yX8_rest := ⟨kN_X8_rest, kV_X8_rest⟩
theorem mi_X8_tell : MI yX8_tell cX8_tell 2 (some .int) 1 := ⟨kC_X8_tell, kI_X8, by decide +kernel, by decide +kernel, by decide +kernel⟩
theorem mv_X8_tell : MV yX8_tell := ⟨kN_X8_tell, kV_X8_tell⟩
theorem mi_X8_check : MI yX8_check cX8_check 5 (some .int) 1 := ⟨kC_X8_check, kI_X8, by decide +kernel, by decide +kernel, by decide +kernel⟩
theorem mv_X8_check : MV yX8_check := ⟨kN_X8_check, kV_X8_check⟩
theorem mi_X8_setAside : MI yX8_setAside cX8_setAside 4 none 2 := ⟨kC_X8_setAside, kI_X8, by decide +kernel, by decide +kernel, by decide +kernel⟩
theorem mv_X8_setAside : MV yX8_setAside := ⟨kN_X8_setAside, kV_X8_setAside⟩
theorem mi_X8_keep : MI yX8_keep cX8_keep 1 (some .int) 0 := ⟨kC_X8_keep, kI_X8, by decide +kernel, by decide +kernel, by decide +kernel⟩
theorem mv_X8_keep : MV yX8_keep := ⟨kN_X8_keep, kV_X8_keep⟩
theorem mi_X8_back : MI yX8_back cX8_back 1 (some .int) 0 := ⟨kC_X8_back, kI_X8, by decide +kernel, by decide +kernel, by decide +kernel⟩
theorem mv_X8_back : MV yX8_back := ⟨kN_X8_back, kV_X8_back⟩
theorem mi_X8_count : MI yX8_count cX8_count 2 (some .int) 1 := ⟨kC_X8_count, kI_X8, by decide +kernel, by decide +kernel, by decide +kernel⟩
theorem mv_X8_count : MV yX8_count := ⟨kN_X8_count, kV_X8_count⟩
